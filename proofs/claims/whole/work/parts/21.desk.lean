/-! methods as functions, by program (wip/gen) -/
def f_D_leastAbsent_2  : Nat → Nat → Int32 → XS → Option Int32
  | 0, _, _, _ => none
  | n + 1, x0, x1, st =>
    if 8 ≤ x1 then
      some ((-1))
    else
      match st.2.2.1 0 x0 0 with
      | none => none
      | some i2 =>
        if x_in x1 8 then
          match st.2.2.1 6 i2 x1.toNatClampNeg with
          | none => none
          | some i5 =>
            if (st.1 1 i5 1) = 0 then
              some (x1)
            else
              f_D_leastAbsent_2 n x0 (x1 + 1) st
        else none
set_option maxRecDepth 100000 in
set_option maxHeartbeats 4000000 in
theorem v_D_leastAbsent_2 {p : Program} {l : Launch} {e : Env} {s : State} {m : MethodId} {args : Array Value} {below : List Frame} {meth : Method} {c : Code} {D : va_G} {cA : Nat → ClassId} {g0 : Nat → Nat → Nat} {n0 : Nat → Nat} {r : Int32} (C : x_C p e rm_D_leastAbsent s m args meth c D cA (x_A g0 n0 s.heap.size) M_D_leastAbsent.2.1 M_D_leastAbsent.1 M_D_leastAbsent.2.2.1) (hret : meth.sig.returnType = M_D_leastAbsent.2.2.2.1) (hmn : meth.name = M_D_leastAbsent.2.2.2.2.2) (hex : c.exceptionTable.toList.map (fun h => (h.startPc, h.endPc, h.handlerPc, h.catchType)) = M_D_leastAbsent.2.2.2.2.1)  : ∀ (n : Nat) (x0 : Nat) (x1 : Int32) (st : XS), f_D_leastAbsent_2 n x0 x1 st = some r → x_V p l e rm_D_leastAbsent s m args below meth c D cA (x_A g0 n0 s.heap.size) M_D_leastAbsent.2.2.1 g0 n0 (x_MQ D cA g0 n0 below s 0 0 (.inl (some (xI r))) st) 2 [(0, xR 0 (some (x0))), (1, xI (x1))] [] st 0 0 := by
  intro n
  induction n with
  | zero => intro x0 x1 st h; cases h
  | succ n ih =>
    intro x0 x1 st h
    rw [f_D_leastAbsent_2.eq_def] at h
    dsimp only at h
    refine x_iload_n (pc := 2) C (d_D_leastAbsent 2 rfl) rfl 1 rfl ?_
    refine x_bipush (pc := 3) (v := 8) C (by decide) (d_D_leastAbsent 3 rfl) ?_
    refine x_icmp_ge (pc := 5) (tgt := 28) C (d_D_leastAbsent 4 rfl) (by decide) (fun c1 => ?_) (fun c1 => ?_)
    · rw [if_pos c1] at h
      refine x_iconst (pc := 28) (v := (-1)) C (by decide) (d_D_leastAbsent 15 rfl) ?_
      cases h
      exact x_iret (pc := 29) C hret rfl (Nat.zero_le _) (Nat.zero_le _) (d_D_leastAbsent 16 rfl)
    · rw [if_neg c1] at h
      refine x_aload_n (pc := 8) C (d_D_leastAbsent 5 rfl) rfl 0 rfl ?_
      refine x_getR (pc := 9) (t := 6) C fl_D_11 rfl rfl (d_D_leastAbsent 6 rfl) ?_
      refine x_iload_n (pc := 12) C (d_D_leastAbsent 7 rfl) rfl 1 rfl ?_
      cases c3 : st.2.2.1 0 x0 0 with
      | none => rw [c3] at h; cases h
      | some i2 =>
        rw [c3] at h
        dsimp only at h
        by_cases b4 : x_in x1 8
        · rw [if_pos b4] at h
          refine x_aald (pc := 13) C ar_6 b4 (d_D_leastAbsent 8 rfl) ?_
          cases c6 : st.2.2.1 6 i2 x1.toNatClampNeg with
          | none => rw [c6] at h; cases h
          | some i5 =>
            rw [c6] at h
            dsimp only at h
            refine x_getI (pc := 14) C fl_D_178 rfl (d_D_leastAbsent 9 rfl) ?_
            refine x_if_ne (pc := 17) (tgt := 22) C (d_D_leastAbsent 10 rfl) (by decide) (fun c7 => ?_) (fun c7 => ?_)
            · rw [if_neg c7] at h
              refine x_iinc (pc := 22) (v := x1 + 1) (L2 := [(1, xI (x1 + 1)), (0, xR 0 (some (x0)))]) C (d_D_leastAbsent 13 rfl) 1 rfl rfl (by decide) rfl ?_
              refine x_goto (pc := 25) (tgt := 2) C (d_D_leastAbsent 14 rfl) (by decide) ?_
              exact x_sub [1, 0] rfl (ih _ _ _ h)
            · rw [if_pos c7] at h
              refine x_iload_n (pc := 20) C (d_D_leastAbsent 11 rfl) rfl 1 rfl ?_
              cases h
              exact x_iret (pc := 21) C hret rfl (Nat.zero_le _) (Nat.zero_le _) (d_D_leastAbsent 12 rfl)
        · rw [if_neg b4] at h; cases h
def f_D_leastAbsent (x0 : Nat) (st : XS) : Option Int32 :=
  f_D_leastAbsent_2 100 x0 0 st
set_option maxRecDepth 100000 in
set_option maxHeartbeats 4000000 in
theorem m_D_leastAbsent (l : Launch) {x0 : Nat} {st : XS} {r : Int32} (h : f_D_leastAbsent x0 st = some r) : x_M l M_D_leastAbsent rm_D_leastAbsent [xR 0 (some (x0))] st (.inl (some (xI r))) st 0 0 := by
  refine x_enter (Nat.le_of_ble_eq_true rfl) ?_
  intro p e s m below meth c D cA g args B C
  have hret := B.2.2.2.2.2.2.2.2.1
  have hmn := B.2.2.2.2.2.2.2.1
  have hex := B.2.2.2.2.2.2.2.2.2.1
  unfold f_D_leastAbsent at h
  refine x_iconst (pc := 0) (v := 0) C (by decide) (d_D_leastAbsent 0 rfl) ?_
  refine x_istore_n (pc := 1) (L2 := [(1, xI (0)), (0, xR 0 (some (x0)))]) C (d_D_leastAbsent 1 rfl) rfl (by decide) rfl ?_
  exact x_sub [1, 0] rfl (v_D_leastAbsent_2 C hret hmn hex 100 _ _ _ h)
def f_D_freeOpening_11  : Nat → Option Nat → Option Nat → Int32 → Int32 → XS → Option (Option Nat)
  | 0, _, _, _, _, _ => none
  | n + 1, x1, x2, x3, x4, st =>
    if x3 ≤ x4 then
      some (none)
    else
      match x2 with
      | none => none
      | some i2 =>
        if x_in x4 20 then
          match st.2.2.1 7 i2 x4.toNatClampNeg with
          | none => none
          | some i5 =>
            if (st.1 2 i5 4) = 0 then
              if (some (i5) : Option Nat) = x1 then
                f_D_freeOpening_11 n (x1) (some (i2)) x3 (x4 + 1) st
              else
                some (some (i5))
            else
              f_D_freeOpening_11 n (x1) (some (i2)) x3 (x4 + 1) st
        else none
set_option maxRecDepth 100000 in
set_option maxHeartbeats 4000000 in
theorem v_D_freeOpening_11 {p : Program} {l : Launch} {e : Env} {s : State} {m : MethodId} {args : Array Value} {below : List Frame} {meth : Method} {c : Code} {D : va_G} {cA : Nat → ClassId} {g0 : Nat → Nat → Nat} {n0 : Nat → Nat} {r : Option Nat} (C : x_C p e rm_D_freeOpening s m args meth c D cA (x_A g0 n0 s.heap.size) M_D_freeOpening.2.1 M_D_freeOpening.1 M_D_freeOpening.2.2.1) (hret : meth.sig.returnType = M_D_freeOpening.2.2.2.1) (hmn : meth.name = M_D_freeOpening.2.2.2.2.2) (hex : c.exceptionTable.toList.map (fun h => (h.startPc, h.endPc, h.handlerPc, h.catchType)) = M_D_freeOpening.2.2.2.2.1)  : ∀ (n : Nat) (x1 : Option Nat) (x2 : Option Nat) (x3 : Int32) (x4 : Int32) (st : XS), f_D_freeOpening_11 n x1 x2 x3 x4 st = some r → x_V p l e rm_D_freeOpening s m args below meth c D cA (x_A g0 n0 s.heap.size) M_D_freeOpening.2.2.1 g0 n0 (x_MQ D cA g0 n0 below s 0 0 (.inl (some (xR 2 r))) st) 11 [(1, xR 2 (x1)), (2, xR 7 (x2)), (3, xI (x3)), (4, xI (x4))] [] st 0 0 := by
  intro n
  induction n with
  | zero => intro x1 x2 x3 x4 st h; cases h
  | succ n ih =>
    intro x1 x2 x3 x4 st h
    rw [f_D_freeOpening_11.eq_def] at h
    dsimp only at h
    refine x_iload (pc := 11) C (d_D_freeOpening 8 rfl) 3 rfl ?_
    refine x_iload_n (pc := 13) C (d_D_freeOpening 9 rfl) rfl 2 rfl ?_
    refine x_icmp_ge (pc := 14) (tgt := 46) C (d_D_freeOpening 10 rfl) (by decide) (fun c1 => ?_) (fun c1 => ?_)
    · rw [if_pos c1] at h
      refine x_nullq (pc := 46) (q := 2) C (d_D_freeOpening 25 rfl) ?_
      cases h
      exact x_aret (pc := 47) C hret (Or.inl ⟨_, rfl⟩) (Nat.zero_le _) (Nat.zero_le _) (d_D_freeOpening 26 rfl)
    · rw [if_neg c1] at h
      refine x_aload_n (pc := 17) C (d_D_freeOpening 11 rfl) rfl 1 rfl ?_
      refine x_iload (pc := 18) C (d_D_freeOpening 12 rfl) 3 rfl ?_
      cases c3 : x2 with
      | none => rw [c3] at h; cases h
      | some i2 =>
        rw [c3] at h
        dsimp only at h
        by_cases b4 : x_in x4 20
        · rw [if_pos b4] at h
          refine x_aald (pc := 20) C ar_7 b4 (d_D_freeOpening 13 rfl) ?_
          refine x_astore (pc := 21) (L2 := [(5, xR 2 (st.2.2.1 7 i2 x4.toNatClampNeg)), (1, xR 2 (x1)), (2, xR 7 (some (i2))), (3, xI (x3)), (4, xI (x4))]) C (d_D_freeOpening 14 rfl) (by decide) rfl ?_
          refine x_aload (pc := 23) C (d_D_freeOpening 15 rfl) 0 rfl ?_
          cases c6 : st.2.2.1 7 i2 x4.toNatClampNeg with
          | none => rw [c6] at h; cases h
          | some i5 =>
            rw [c6] at h
            dsimp only at h
            refine x_getI (pc := 25) C fl_D_191 rfl (d_D_freeOpening 16 rfl) ?_
            refine x_if_ne (pc := 28) (tgt := 40) C (d_D_freeOpening 17 rfl) (by decide) (fun c7 => ?_) (fun c7 => ?_)
            · rw [if_neg c7] at h
              refine x_iinc (pc := 40) (v := x4 + 1) (L2 := [(4, xI (x4 + 1)), (5, xR 2 (some (i5))), (1, xR 2 (x1)), (2, xR 7 (some (i2))), (3, xI (x3))]) C (d_D_freeOpening 23 rfl) 4 rfl rfl (by decide) rfl ?_
              refine x_goto (pc := 43) (tgt := 11) C (d_D_freeOpening 24 rfl) (by decide) ?_
              exact x_sub [2, 3, 4, 0] rfl (ih _ _ _ _ _ h)
            · rw [if_pos c7] at h
              refine x_aload (pc := 31) C (d_D_freeOpening 18 rfl) 0 rfl ?_
              refine x_aload_n (pc := 33) C (d_D_freeOpening 19 rfl) rfl 1 rfl ?_
              refine x_acmp_eq (pc := 34) (tgt := 40) C (d_D_freeOpening 20 rfl) (by decide) (fun c8 => ?_) (fun c8 => ?_)
              · rw [if_pos c8] at h
                refine x_iinc (pc := 40) (v := x4 + 1) (L2 := [(4, xI (x4 + 1)), (5, xR 2 (some (i5))), (1, xR 2 (x1)), (2, xR 7 (some (i2))), (3, xI (x3))]) C (d_D_freeOpening 23 rfl) 4 rfl rfl (by decide) rfl ?_
                refine x_goto (pc := 43) (tgt := 11) C (d_D_freeOpening 24 rfl) (by decide) ?_
                exact x_sub [2, 3, 4, 0] rfl (ih _ _ _ _ _ h)
              · rw [if_neg c8] at h
                refine x_aload (pc := 37) C (d_D_freeOpening 21 rfl) 0 rfl ?_
                cases h
                exact x_aret (pc := 39) C hret (Or.inl ⟨_, rfl⟩) (Nat.zero_le _) (Nat.zero_le _) (d_D_freeOpening 22 rfl)
        · rw [if_neg b4] at h; cases h
def f_D_freeOpening (x0 : Nat) (x1 : Option Nat) (st : XS) : Option (Option Nat) :=
  match st.2.2.1 0 x0 1 with
  | none => none
  | some i9 =>
    f_D_freeOpening_11 100 (x1) (some (i9)) 20 0 st
set_option maxRecDepth 100000 in
set_option maxHeartbeats 4000000 in
theorem m_D_freeOpening (l : Launch) {x0 : Nat} {x1 : Option Nat} {st : XS} {r : Option Nat} (h : f_D_freeOpening x0 x1 st = some r) : x_M l M_D_freeOpening rm_D_freeOpening [xR 0 (some (x0)), xR 2 (x1)] st (.inl (some (xR 2 r))) st 0 0 := by
  refine x_enter (Nat.le_of_ble_eq_true rfl) ?_
  intro p e s m below meth c D cA g args B C
  have hret := B.2.2.2.2.2.2.2.2.1
  have hmn := B.2.2.2.2.2.2.2.1
  have hex := B.2.2.2.2.2.2.2.2.2.1
  unfold f_D_freeOpening at h
  refine x_aload_n (pc := 0) C (d_D_freeOpening 0 rfl) rfl 0 rfl ?_
  refine x_getR (pc := 1) (t := 7) C fl_D_17 rfl rfl (d_D_freeOpening 1 rfl) ?_
  refine x_astore_n (pc := 4) (L2 := [(2, xR 7 (st.2.2.1 0 x0 1)), (0, xR 0 (some (x0))), (1, xR 2 (x1))]) C (d_D_freeOpening 2 rfl) rfl (by decide) rfl ?_
  refine x_aload_n (pc := 5) C (d_D_freeOpening 3 rfl) rfl 0 rfl ?_
  cases c10 : st.2.2.1 0 x0 1 with
  | none => rw [c10] at h; cases h
  | some i9 =>
    rw [c10] at h
    dsimp only at h
    refine x_alen (pc := 6) (v := 20) C ar_7 rfl (d_D_freeOpening 4 rfl) ?_
    refine x_istore_n (pc := 7) (L2 := [(3, xI (20)), (2, xR 7 (some (i9))), (0, xR 0 (some (x0))), (1, xR 2 (x1))]) C (d_D_freeOpening 5 rfl) rfl (by decide) rfl ?_
    refine x_iconst (pc := 8) (v := 0) C (by decide) (d_D_freeOpening 6 rfl) ?_
    refine x_istore (pc := 9) (L2 := [(4, xI (0)), (3, xI (20)), (2, xR 7 (some (i9))), (0, xR 0 (some (x0))), (1, xR 2 (x1))]) C (d_D_freeOpening 7 rfl) (by decide) rfl ?_
    exact x_sub [4, 2, 1, 0] rfl (v_D_freeOpening_11 C hret hmn hex 100 _ _ _ _ _ h)
def f_D_spawn (x0 : Nat) (st : XS) : Option (Int32 × XS) :=
  match f_D_leastAbsent x0 st with
  | none => none
  | some v2 =>
    match f_D_freeOpening x0 (none) st with
    | none => none
    | some v4 =>
      if v2 < 0 then
        some ((-4), st)
      else
        match v4 with
        | none =>
          some ((-4), st)
        | some i7 =>
          match st.2.2.1 0 x0 0 with
          | none => none
          | some i8 =>
            if x_in v2 8 then
              match st.2.2.1 6 i8 v2.toNatClampNeg with
              | none => none
              | some i11 =>
                match f_P_begin i11 st with
                | none => none
                | some (_, st15) =>
                  match f_O_begin i7 (none) (none) 3 st15 with
                  | none => none
                  | some (_, st18) =>
                    match f_P_hold i11 0 (some (i7)) st18 with
                    | none => none
                    | some (_, st21) =>
                      match f_P_hold i11 1 (some (i7)) st21 with
                      | none => none
                      | some (_, st24) =>
                        some (v2, st24)
            else none
set_option maxRecDepth 100000 in
set_option maxHeartbeats 4000000 in
theorem m_D_spawn (l : Launch) {x0 : Nat} {st : XS} {r : Int32} {st2 : XS} (h : f_D_spawn x0 st = some (r, st2)) : x_M l M_D_spawn rm_D_spawn [xR 0 (some (x0))] st (.inl (some (xI r))) st2 0 0 := by
  refine x_enter (Nat.le_of_ble_eq_true rfl) ?_
  intro p e s m below meth c D cA g args B C
  have hret := B.2.2.2.2.2.2.2.2.1
  have hmn := B.2.2.2.2.2.2.2.1
  have hex := B.2.2.2.2.2.2.2.2.2.1
  unfold f_D_spawn at h
  refine x_aload_n (pc := 0) C (d_D_spawn 0 rfl) rfl 0 rfl ?_
  cases c1 : f_D_leastAbsent x0 st with
  | none => rw [c1] at h; cases h
  | some v2 =>
    rw [c1] at h
    dsimp only at h
    refine x_callV (mc := 0) (ms := 0) (pc := 1) (bL := []) (K := []) C cs_D_51 (m_D_leastAbsent l c1 : x_M l _ _ _ _ (.inl (some (xI v2))) _ 0 0) (by decide) rfl (Nat.le_of_ble_eq_true rfl) (d_D_spawn 1 rfl) ?_
    refine x_istore_n (pc := 4) (L2 := [(1, xI (v2)), (0, xR 0 (some (x0)))]) C (d_D_spawn 2 rfl) rfl (by decide) rfl ?_
    refine x_aload_n (pc := 5) C (d_D_spawn 3 rfl) rfl 1 rfl ?_
    refine x_nullq (pc := 6) (q := 2) C (d_D_spawn 4 rfl) ?_
    cases c3 : f_D_freeOpening x0 (none) st with
    | none => rw [c3] at h; cases h
    | some v4 =>
      rw [c3] at h
      dsimp only at h
      refine x_callV (mc := 0) (ms := 0) (pc := 7) (bL := [xR 2 (none)]) (K := []) C cs_D_55 (m_D_freeOpening l c3 : x_M l _ _ _ _ (.inl (some (xR 2 v4))) _ 0 0) (by decide) rfl (Nat.le_of_ble_eq_true rfl) (d_D_spawn 5 rfl) ?_
      refine x_astore_n (pc := 10) (L2 := [(2, xR 2 (v4)), (1, xI (v2)), (0, xR 0 (some (x0)))]) C (d_D_spawn 6 rfl) rfl (by decide) rfl ?_
      refine x_iload_n (pc := 11) C (d_D_spawn 7 rfl) rfl 1 rfl ?_
      refine x_if_lt (pc := 12) (tgt := 19) C (d_D_spawn 8 rfl) (by decide) (fun c5 => ?_) (fun c5 => ?_)
      · rw [if_pos c5] at h
        refine x_bipush (pc := 19) (v := (-4)) C (by decide) (d_D_spawn 11 rfl) ?_
        cases h
        exact x_iret (pc := 21) C hret rfl (Nat.zero_le _) (Nat.zero_le _) (d_D_spawn 12 rfl)
      · rw [if_neg c5] at h
        refine x_aload_n (pc := 15) C (d_D_spawn 9 rfl) rfl 0 rfl ?_
        refine x_ifnonnull (pc := 16) (tgt := 22) C (d_D_spawn 10 rfl) (by decide) (fun i7 c6 => ?_) (fun c6 => ?_)
        · rw [c6] at h; try rw [c6]
          dsimp only at h
          refine x_aload_n (pc := 22) C (d_D_spawn 13 rfl) rfl 2 rfl ?_
          refine x_getR (pc := 23) (t := 6) C fl_D_11 rfl rfl (d_D_spawn 14 rfl) ?_
          refine x_iload_n (pc := 26) C (d_D_spawn 15 rfl) rfl 1 rfl ?_
          cases c9 : st.2.2.1 0 x0 0 with
          | none => rw [c9] at h; cases h
          | some i8 =>
            rw [c9] at h
            dsimp only at h
            by_cases b10 : x_in v2 8
            · rw [if_pos b10] at h
              refine x_aald (pc := 27) C ar_6 b10 (d_D_spawn 16 rfl) ?_
              refine x_astore_n (pc := 28) (L2 := [(3, xR 1 (st.2.2.1 6 i8 v2.toNatClampNeg)), (2, xR 2 (some (i7))), (1, xI (v2)), (0, xR 0 (some (x0)))]) C (d_D_spawn 17 rfl) rfl (by decide) rfl ?_
              refine x_aload_n (pc := 29) C (d_D_spawn 18 rfl) rfl 0 rfl ?_
              cases c12 : st.2.2.1 6 i8 v2.toNatClampNeg with
              | none => rw [c12] at h; cases h
              | some i11 =>
                rw [c12] at h
                dsimp only at h
                cases c13 : f_P_begin i11 st with
                | none => rw [c13] at h; cases h
                | some w28 =>
                  obtain ⟨v14, st15⟩ := w28
                  rw [c13] at h
                  dsimp only at h
                  refine x_callV (mc := 0) (ms := 0) (pc := 30) (bL := []) (K := []) C cs_D_59 (m_P_begin l c13 : x_M l _ _ _ _ (.inl none) _ 0 0) (by decide) rfl (Nat.le_of_ble_eq_true rfl) (d_D_spawn 19 rfl) ?_
                  refine x_aload_n (pc := 33) C (d_D_spawn 20 rfl) rfl 1 rfl ?_
                  refine x_nullq (pc := 34) (q := 3) C (d_D_spawn 21 rfl) ?_
                  refine x_nullq (pc := 35) (q := 4) C (d_D_spawn 22 rfl) ?_
                  refine x_iconst (pc := 36) (v := 3) C (by decide) (d_D_spawn 23 rfl) ?_
                  cases c16 : f_O_begin i7 (none) (none) 3 st15 with
                  | none => rw [c16] at h; cases h
                  | some w27 =>
                    obtain ⟨v17, st18⟩ := w27
                    rw [c16] at h
                    dsimp only at h
                    refine x_callV (mc := 0) (ms := 0) (pc := 37) (bL := [xR 3 (none), xR 4 (none), xI (3)]) (K := []) C cs_D_62 (m_O_begin l c16 : x_M l _ _ _ _ (.inl none) _ 0 0) (by decide) rfl (Nat.le_of_ble_eq_true rfl) (d_D_spawn 24 rfl) ?_
                    refine x_aload_n (pc := 40) C (d_D_spawn 25 rfl) rfl 0 rfl ?_
                    refine x_iconst (pc := 41) (v := 0) C (by decide) (d_D_spawn 26 rfl) ?_
                    refine x_aload_n (pc := 42) C (d_D_spawn 27 rfl) rfl 1 rfl ?_
                    cases c19 : f_P_hold i11 0 (some (i7)) st18 with
                    | none => rw [c19] at h; cases h
                    | some w26 =>
                      obtain ⟨v20, st21⟩ := w26
                      rw [c19] at h
                      dsimp only at h
                      refine x_callV (mc := 0) (ms := 0) (pc := 43) (bL := [xI (0), xR 2 (some (i7))]) (K := []) C cs_D_65 (m_P_hold l c19 : x_M l _ _ _ _ (.inl none) _ 0 0) (by decide) rfl (Nat.le_of_ble_eq_true rfl) (d_D_spawn 28 rfl) ?_
                      refine x_aload_n (pc := 46) C (d_D_spawn 29 rfl) rfl 0 rfl ?_
                      refine x_iconst (pc := 47) (v := 1) C (by decide) (d_D_spawn 30 rfl) ?_
                      refine x_aload_n (pc := 48) C (d_D_spawn 31 rfl) rfl 1 rfl ?_
                      cases c22 : f_P_hold i11 1 (some (i7)) st21 with
                      | none => rw [c22] at h; cases h
                      | some w25 =>
                        obtain ⟨v23, st24⟩ := w25
                        rw [c22] at h
                        dsimp only at h
                        refine x_callV (mc := 0) (ms := 0) (pc := 49) (bL := [xI (1), xR 2 (some (i7))]) (K := []) C cs_D_65 (m_P_hold l c22 : x_M l _ _ _ _ (.inl none) _ 0 0) (by decide) rfl (Nat.le_of_ble_eq_true rfl) (d_D_spawn 32 rfl) ?_
                        refine x_iload_n (pc := 52) C (d_D_spawn 33 rfl) rfl 2 rfl ?_
                        cases h
                        exact x_iret (pc := 53) C hret rfl (Nat.zero_le _) (Nat.zero_le _) (d_D_spawn 34 rfl)
            · rw [if_neg b10] at h; cases h
        · rw [c6] at h; try rw [c6]
          dsimp only at h
          refine x_bipush (pc := 19) (v := (-4)) C (by decide) (d_D_spawn 11 rfl) ?_
          cases h
          exact x_iret (pc := 21) C hret rfl (Nat.zero_le _) (Nat.zero_le _) (d_D_spawn 12 rfl)
def f_D_procThere (x0 : Nat) (x1 : Int32) (st : XS) : Option (Option Nat) :=
  if x1 < 0 then
    some (none)
  else
    if 8 ≤ x1 then
      some (none)
    else
      match st.2.2.1 0 x0 0 with
      | none => none
      | some i3 =>
        if x_in x1 8 then
          match st.2.2.1 6 i3 x1.toNatClampNeg with
          | none => none
          | some i6 =>
            if (st.1 1 i6 1) = 0 then
              some (none)
            else
              if x_in x1 8 then
                some (some (i6))
              else none
        else none
set_option maxRecDepth 100000 in
set_option maxHeartbeats 4000000 in
theorem m_D_procThere (l : Launch) {x0 : Nat} {x1 : Int32} {st : XS} {r : Option Nat} (h : f_D_procThere x0 x1 st = some r) : x_M l M_D_procThere rm_D_procThere [xR 0 (some (x0)), xI (x1)] st (.inl (some (xR 1 r))) st 0 0 := by
  refine x_enter (Nat.le_of_ble_eq_true rfl) ?_
  intro p e s m below meth c D cA g args B C
  have hret := B.2.2.2.2.2.2.2.2.1
  have hmn := B.2.2.2.2.2.2.2.1
  have hex := B.2.2.2.2.2.2.2.2.2.1
  unfold f_D_procThere at h
  refine x_iload_n (pc := 0) C (d_D_procThere 0 rfl) rfl 1 rfl ?_
  refine x_if_lt (pc := 1) (tgt := 22) C (d_D_procThere 1 rfl) (by decide) (fun c1 => ?_) (fun c1 => ?_)
  · rw [if_pos c1] at h
    refine x_nullq (pc := 22) (q := 1) C (d_D_procThere 11 rfl) ?_
    cases h
    exact x_aret (pc := 23) C hret (Or.inl ⟨_, rfl⟩) (Nat.zero_le _) (Nat.zero_le _) (d_D_procThere 12 rfl)
  · rw [if_neg c1] at h
    refine x_iload_n (pc := 4) C (d_D_procThere 2 rfl) rfl 1 rfl ?_
    refine x_bipush (pc := 5) (v := 8) C (by decide) (d_D_procThere 3 rfl) ?_
    refine x_icmp_ge (pc := 7) (tgt := 22) C (d_D_procThere 4 rfl) (by decide) (fun c2 => ?_) (fun c2 => ?_)
    · rw [if_pos c2] at h
      refine x_nullq (pc := 22) (q := 1) C (d_D_procThere 11 rfl) ?_
      cases h
      exact x_aret (pc := 23) C hret (Or.inl ⟨_, rfl⟩) (Nat.zero_le _) (Nat.zero_le _) (d_D_procThere 12 rfl)
    · rw [if_neg c2] at h
      refine x_aload_n (pc := 10) C (d_D_procThere 5 rfl) rfl 0 rfl ?_
      refine x_getR (pc := 11) (t := 6) C fl_D_11 rfl rfl (d_D_procThere 6 rfl) ?_
      refine x_iload_n (pc := 14) C (d_D_procThere 7 rfl) rfl 1 rfl ?_
      cases c4 : st.2.2.1 0 x0 0 with
      | none => rw [c4] at h; cases h
      | some i3 =>
        rw [c4] at h
        dsimp only at h
        by_cases b5 : x_in x1 8
        · rw [if_pos b5] at h
          refine x_aald (pc := 15) C ar_6 b5 (d_D_procThere 8 rfl) ?_
          cases c7 : st.2.2.1 6 i3 x1.toNatClampNeg with
          | none => rw [c7] at h; cases h
          | some i6 =>
            rw [c7] at h
            dsimp only at h
            refine x_getI (pc := 16) C fl_D_178 rfl (d_D_procThere 9 rfl) ?_
            refine x_if_ne (pc := 19) (tgt := 24) C (d_D_procThere 10 rfl) (by decide) (fun c8 => ?_) (fun c8 => ?_)
            · rw [if_neg c8] at h
              refine x_aload_n (pc := 24) C (d_D_procThere 13 rfl) rfl 0 rfl ?_
              refine x_getR (pc := 25) (t := 6) C fl_D_11 rfl rfl (d_D_procThere 14 rfl) ?_
              rw [c4]
              refine x_iload_n (pc := 28) C (d_D_procThere 15 rfl) rfl 1 rfl ?_
              by_cases b9 : x_in x1 8
              · rw [if_pos b9] at h
                refine x_aald (pc := 29) C ar_6 b9 (d_D_procThere 16 rfl) ?_
                rw [c7]
                cases h
                exact x_aret (pc := 30) C hret (Or.inl ⟨_, rfl⟩) (Nat.zero_le _) (Nat.zero_le _) (d_D_procThere 17 rfl)
              · rw [if_neg b9] at h; cases h
            · rw [if_pos c8] at h
              refine x_nullq (pc := 22) (q := 1) C (d_D_procThere 11 rfl) ?_
              cases h
              exact x_aret (pc := 23) C hret (Or.inl ⟨_, rfl⟩) (Nat.zero_le _) (Nat.zero_le _) (d_D_procThere 12 rfl)
        · rw [if_neg b5] at h; cases h
def f_D_given (x0 : Nat) (x1 : Int32) (st : XS) : Option Int64 :=
  match f_D_procThere x0 x1 st with
  | none => none
  | some v2 =>
    match v2 with
    | none =>
      some (0)
    | some i4 =>
      some (st.2.1 1 i4 4)
set_option maxRecDepth 100000 in
set_option maxHeartbeats 4000000 in
theorem m_D_given (l : Launch) {x0 : Nat} {x1 : Int32} {st : XS} {r : Int64} (h : f_D_given x0 x1 st = some r) : x_M l M_D_given rm_D_given [xR 0 (some (x0)), xI (x1)] st (.inl (some (xL r))) st 0 0 := by
  refine x_enter (Nat.le_of_ble_eq_true rfl) ?_
  intro p e s m below meth c D cA g args B C
  have hret := B.2.2.2.2.2.2.2.2.1
  have hmn := B.2.2.2.2.2.2.2.1
  have hex := B.2.2.2.2.2.2.2.2.2.1
  unfold f_D_given at h
  refine x_aload_n (pc := 0) C (d_D_given 0 rfl) rfl 0 rfl ?_
  refine x_iload_n (pc := 1) C (d_D_given 1 rfl) rfl 1 rfl ?_
  cases c1 : f_D_procThere x0 x1 st with
  | none => rw [c1] at h; cases h
  | some v2 =>
    rw [c1] at h
    dsimp only at h
    refine x_callV (mc := 0) (ms := 0) (pc := 2) (bL := [xI (x1)]) (K := []) C cs_D_77 (m_D_procThere l c1 : x_M l _ _ _ _ (.inl (some (xR 1 v2))) _ 0 0) (by decide) rfl (Nat.le_of_ble_eq_true rfl) (d_D_given 2 rfl) ?_
    refine x_astore_n (pc := 5) (L2 := [(2, xR 1 (v2)), (0, xR 0 (some (x0))), (1, xI (x1))]) C (d_D_given 3 rfl) rfl (by decide) rfl ?_
    refine x_aload_n (pc := 6) C (d_D_given 4 rfl) rfl 0 rfl ?_
    refine x_ifnonnull (pc := 7) (tgt := 14) C (d_D_given 5 rfl) (by decide) (fun i4 c3 => ?_) (fun c3 => ?_)
    · rw [c3] at h; try rw [c3]
      dsimp only at h
      refine x_aload_n (pc := 14) C (d_D_given 8 rfl) rfl 0 rfl ?_
      refine x_getJ (pc := 15) C fl_D_133 rfl (d_D_given 9 rfl) ?_
      cases h
      exact x_lret (pc := 18) C hret (Nat.zero_le _) (Nat.zero_le _) (d_D_given 10 rfl)
    · rw [c3] at h; try rw [c3]
      dsimp only at h
      refine x_lconst (pc := 10) (v := 0) C (by decide) (d_D_given 6 rfl) ?_
      refine x_goto (pc := 11) (tgt := 18) C (d_D_given 7 rfl) (by decide) ?_
      cases h
      exact x_lret (pc := 18) C hret (Nat.zero_le _) (Nat.zero_le _) (d_D_given 10 rfl)
def f_D_shown (x0 : Nat) (x1 : Int32) (st : XS) : Option Int32 :=
  if x1 < 0 then
    some ((-1))
  else
    match st.2.2.1 0 x0 5 with
    | none => none
    | some i2 =>
      if (st.1 5 i2 2) ≤ x1 then
        some ((-1))
      else
        match f_B_byteAt i2 x1 st with
        | none => none
        | some v6 =>
          some (v6)
set_option maxRecDepth 100000 in
set_option maxHeartbeats 4000000 in
theorem m_D_shown (l : Launch) {x0 : Nat} {x1 : Int32} {st : XS} {r : Int32} (h : f_D_shown x0 x1 st = some r) : x_M l M_D_shown rm_D_shown [xR 0 (some (x0)), xI (x1)] st (.inl (some (xI r))) st 0 0 := by
  refine x_enter (Nat.le_of_ble_eq_true rfl) ?_
  intro p e s m below meth c D cA g args B C
  have hret := B.2.2.2.2.2.2.2.2.1
  have hmn := B.2.2.2.2.2.2.2.1
  have hex := B.2.2.2.2.2.2.2.2.2.1
  unfold f_D_shown at h
  refine x_iload_n (pc := 0) C (d_D_shown 0 rfl) rfl 1 rfl ?_
  refine x_if_lt (pc := 1) (tgt := 26) C (d_D_shown 1 rfl) (by decide) (fun c1 => ?_) (fun c1 => ?_)
  · rw [if_pos c1] at h
    refine x_iconst (pc := 26) (v := (-1)) C (by decide) (d_D_shown 12 rfl) ?_
    cases h
    exact x_iret (pc := 27) C hret rfl (Nat.zero_le _) (Nat.zero_le _) (d_D_shown 13 rfl)
  · rw [if_neg c1] at h
    refine x_iload_n (pc := 4) C (d_D_shown 2 rfl) rfl 1 rfl ?_
    refine x_aload_n (pc := 5) C (d_D_shown 3 rfl) rfl 0 rfl ?_
    refine x_getR (pc := 6) (t := 5) C fl_D_40 rfl rfl (d_D_shown 4 rfl) ?_
    cases c3 : st.2.2.1 0 x0 5 with
    | none => rw [c3] at h; cases h
    | some i2 =>
      rw [c3] at h
      dsimp only at h
      refine x_getI (pc := 9) C fl_D_169 rfl (d_D_shown 5 rfl) ?_
      refine x_icmp_ge (pc := 12) (tgt := 26) C (d_D_shown 6 rfl) (by decide) (fun c4 => ?_) (fun c4 => ?_)
      · rw [if_pos c4] at h
        refine x_iconst (pc := 26) (v := (-1)) C (by decide) (d_D_shown 12 rfl) ?_
        cases h
        exact x_iret (pc := 27) C hret rfl (Nat.zero_le _) (Nat.zero_le _) (d_D_shown 13 rfl)
      · rw [if_neg c4] at h
        refine x_aload_n (pc := 15) C (d_D_shown 7 rfl) rfl 0 rfl ?_
        refine x_getR (pc := 16) (t := 5) C fl_D_40 rfl rfl (d_D_shown 8 rfl) ?_
        rw [c3]
        refine x_iload_n (pc := 19) C (d_D_shown 9 rfl) rfl 1 rfl ?_
        cases c5 : f_B_byteAt i2 x1 st with
        | none => rw [c5] at h; cases h
        | some v6 =>
          rw [c5] at h
          dsimp only at h
          refine x_callV (mc := 0) (ms := 0) (pc := 20) (bL := [xI (x1)]) (K := []) C cs_D_175 (m_B_byteAt l c5 : x_M l _ _ _ _ (.inl (some (xI v6))) _ 0 0) (by decide) rfl (Nat.le_of_ble_eq_true rfl) (d_D_shown 10 rfl) ?_
          refine x_goto (pc := 23) (tgt := 27) C (d_D_shown 11 rfl) (by decide) ?_
          cases h
          exact x_iret (pc := 27) C hret rfl (Nat.zero_le _) (Nat.zero_le _) (d_D_shown 13 rfl)
def f_D_state (x0 : Nat) (x1 : Int32) (x2 : Int32) (st : XS) : Option Int32 :=
  match f_D_procThere x0 x1 st with
  | none => none
  | some v2 =>
    if x2 = 0 then
      match v2 with
      | none =>
        some (0)
      | some i5 =>
        some (st.1 1 i5 1)
    else if x2 = 1 then
      match v2 with
      | none =>
        some ((-1))
      | some i8 =>
        some (st.1 1 i8 2)
    else if x2 = 2 then
      match v2 with
      | none =>
        some (0)
      | some i11 =>
        some (st.1 1 i11 3)
    else
      some ((-1))
set_option maxRecDepth 100000 in
set_option maxHeartbeats 4000000 in
theorem m_D_state (l : Launch) {x0 : Nat} {x1 : Int32} {x2 : Int32} {st : XS} {r : Int32} (h : f_D_state x0 x1 x2 st = some r) : x_M l M_D_state rm_D_state [xR 0 (some (x0)), xI (x1), xI (x2)] st (.inl (some (xI r))) st 0 0 := by
  refine x_enter (Nat.le_of_ble_eq_true rfl) ?_
  intro p e s m below meth c D cA g args B C
  have hret := B.2.2.2.2.2.2.2.2.1
  have hmn := B.2.2.2.2.2.2.2.1
  have hex := B.2.2.2.2.2.2.2.2.2.1
  unfold f_D_state at h
  refine x_aload_n (pc := 0) C (d_D_state 0 rfl) rfl 0 rfl ?_
  refine x_iload_n (pc := 1) C (d_D_state 1 rfl) rfl 1 rfl ?_
  cases c1 : f_D_procThere x0 x1 st with
  | none => rw [c1] at h; cases h
  | some v2 =>
    rw [c1] at h
    dsimp only at h
    refine x_callV (mc := 0) (ms := 0) (pc := 2) (bL := [xI (x1)]) (K := []) C cs_D_77 (m_D_procThere l c1 : x_M l _ _ _ _ (.inl (some (xR 1 v2))) _ 0 0) (by decide) rfl (Nat.le_of_ble_eq_true rfl) (d_D_state 2 rfl) ?_
    refine x_astore_n (pc := 5) (L2 := [(3, xR 1 (v2)), (0, xR 0 (some (x0))), (1, xI (x1)), (2, xI (x2))]) C (d_D_state 3 rfl) rfl (by decide) rfl ?_
    refine x_iload_n (pc := 6) C (d_D_state 4 rfl) rfl 3 rfl ?_
    by_cases c3 : x2 = 0
    · rw [if_pos c3] at h
      refine x_tsw (pc := 7) (v := 0) (tgt := 32) C (d_D_state 5 rfl) c3 (by decide) (by decide) rfl (by decide) ?_
      refine x_aload_n (pc := 32) C (d_D_state 6 rfl) rfl 0 rfl ?_
      refine x_ifnonnull (pc := 33) (tgt := 40) C (d_D_state 7 rfl) (by decide) (fun i5 c4 => ?_) (fun c4 => ?_)
      · rw [c4] at h; try rw [c4]
        dsimp only at h
        refine x_aload_n (pc := 40) C (d_D_state 10 rfl) rfl 0 rfl ?_
        refine x_getI (pc := 41) C fl_D_178 rfl (d_D_state 11 rfl) ?_
        cases h
        exact x_iret (pc := 44) C hret rfl (Nat.zero_le _) (Nat.zero_le _) (d_D_state 12 rfl)
      · rw [c4] at h; try rw [c4]
        dsimp only at h
        refine x_iconst (pc := 36) (v := 0) C (by decide) (d_D_state 8 rfl) ?_
        refine x_goto (pc := 37) (tgt := 44) C (d_D_state 9 rfl) (by decide) ?_
        cases h
        exact x_iret (pc := 44) C hret rfl (Nat.zero_le _) (Nat.zero_le _) (d_D_state 12 rfl)
    rw [if_neg c3] at h
    by_cases c6 : x2 = 1
    · rw [if_pos c6] at h
      refine x_tsw (pc := 7) (v := 1) (tgt := 45) C (d_D_state 5 rfl) c6 (by decide) (by decide) rfl (by decide) ?_
      refine x_aload_n (pc := 45) C (d_D_state 13 rfl) rfl 0 rfl ?_
      refine x_ifnonnull (pc := 46) (tgt := 53) C (d_D_state 14 rfl) (by decide) (fun i8 c7 => ?_) (fun c7 => ?_)
      · rw [c7] at h; try rw [c7]
        dsimp only at h
        refine x_aload_n (pc := 53) C (d_D_state 17 rfl) rfl 0 rfl ?_
        refine x_getI (pc := 54) C fl_D_181 rfl (d_D_state 18 rfl) ?_
        cases h
        exact x_iret (pc := 57) C hret rfl (Nat.zero_le _) (Nat.zero_le _) (d_D_state 19 rfl)
      · rw [c7] at h; try rw [c7]
        dsimp only at h
        refine x_iconst (pc := 49) (v := (-1)) C (by decide) (d_D_state 15 rfl) ?_
        refine x_goto (pc := 50) (tgt := 57) C (d_D_state 16 rfl) (by decide) ?_
        cases h
        exact x_iret (pc := 57) C hret rfl (Nat.zero_le _) (Nat.zero_le _) (d_D_state 19 rfl)
    rw [if_neg c6] at h
    by_cases c9 : x2 = 2
    · rw [if_pos c9] at h
      refine x_tsw (pc := 7) (v := 2) (tgt := 58) C (d_D_state 5 rfl) c9 (by decide) (by decide) rfl (by decide) ?_
      refine x_aload_n (pc := 58) C (d_D_state 20 rfl) rfl 0 rfl ?_
      refine x_ifnonnull (pc := 59) (tgt := 66) C (d_D_state 21 rfl) (by decide) (fun i11 c10 => ?_) (fun c10 => ?_)
      · rw [c10] at h; try rw [c10]
        dsimp only at h
        refine x_aload_n (pc := 66) C (d_D_state 24 rfl) rfl 0 rfl ?_
        refine x_getI (pc := 67) C fl_D_184 rfl (d_D_state 25 rfl) ?_
        cases h
        exact x_iret (pc := 70) C hret rfl (Nat.zero_le _) (Nat.zero_le _) (d_D_state 26 rfl)
      · rw [c10] at h; try rw [c10]
        dsimp only at h
        refine x_iconst (pc := 62) (v := 0) C (by decide) (d_D_state 22 rfl) ?_
        refine x_goto (pc := 63) (tgt := 70) C (d_D_state 23 rfl) (by decide) ?_
        cases h
        exact x_iret (pc := 70) C hret rfl (Nat.zero_le _) (Nat.zero_le _) (d_D_state 26 rfl)
    rw [if_neg c9] at h
    refine x_tout (pc := 7) (tgt := 71) C (d_D_state 5 rfl) (x_swo (fun k h1 h2 => by
        have h3 : k = 0 ∨ k = 1 ∨ k = 2 := by omega
        rcases h3 with rfl | rfl | rfl <;> assumption)) (by decide) ?_
    refine x_iconst (pc := 71) (v := (-1)) C (by decide) (d_D_state 27 rfl) ?_
    cases h
    exact x_iret (pc := 72) C hret rfl (Nat.zero_le _) (Nat.zero_le _) (d_D_state 28 rfl)
def f_D_kindOf (x0 : Option Nat) (st : XS) : Option Int32 :=
  match x0 with
  | none => none
  | some i1 =>
    match st.2.2.1 2 i1 0 with
    | none =>
      match st.2.2.1 2 i1 1 with
      | none =>
        some (4)
      | some i6 =>
        some (3)
    | some i4 =>
      match f_O_has i1 1 st with
      | none => none
      | some v8 =>
        if v8 = 0 then
          some (2)
        else
          some (1)
set_option maxRecDepth 100000 in
set_option maxHeartbeats 4000000 in
theorem m_D_kindOf (l : Launch) {x0 : Option Nat} {st : XS} {r : Int32} (h : f_D_kindOf x0 st = some r) : x_M l M_D_kindOf rm_D_kindOf [xR 2 (x0)] st (.inl (some (xI r))) st 0 0 := by
  refine x_enter (Nat.le_of_ble_eq_true rfl) ?_
  intro p e s m below meth c D cA g args B C
  have hret := B.2.2.2.2.2.2.2.2.1
  have hmn := B.2.2.2.2.2.2.2.1
  have hex := B.2.2.2.2.2.2.2.2.2.1
  unfold f_D_kindOf at h
  refine x_aload_n (pc := 0) C (d_D_kindOf 0 rfl) rfl 0 rfl ?_
  cases c2 : x0 with
  | none => rw [c2] at h; cases h
  | some i1 =>
    rw [c2] at h
    dsimp only at h
    refine x_getR (pc := 1) (t := 3) C fl_D_246 rfl rfl (d_D_kindOf 1 rfl) ?_
    refine x_ifnull (pc := 4) (tgt := 21) C (d_D_kindOf 2 rfl) (by decide) (fun c3 => ?_) (fun i4 c3 => ?_)
    · rw [c3] at h; try rw [c3]
      dsimp only at h
      refine x_aload_n (pc := 21) C (d_D_kindOf 11 rfl) rfl 0 rfl ?_
      refine x_getR (pc := 22) (t := 4) C fl_D_158 rfl rfl (d_D_kindOf 12 rfl) ?_
      refine x_ifnull (pc := 25) (tgt := 32) C (d_D_kindOf 13 rfl) (by decide) (fun c5 => ?_) (fun i6 c5 => ?_)
      · rw [c5] at h; try rw [c5]
        dsimp only at h
        refine x_iconst (pc := 32) (v := 4) C (by decide) (d_D_kindOf 16 rfl) ?_
        cases h
        exact x_iret (pc := 33) C hret rfl (Nat.zero_le _) (Nat.zero_le _) (d_D_kindOf 17 rfl)
      · rw [c5] at h; try rw [c5]
        dsimp only at h
        refine x_iconst (pc := 28) (v := 3) C (by decide) (d_D_kindOf 14 rfl) ?_
        refine x_goto (pc := 29) (tgt := 33) C (d_D_kindOf 15 rfl) (by decide) ?_
        cases h
        exact x_iret (pc := 33) C hret rfl (Nat.zero_le _) (Nat.zero_le _) (d_D_kindOf 17 rfl)
    · rw [c3] at h; try rw [c3]
      dsimp only at h
      refine x_aload_n (pc := 7) C (d_D_kindOf 3 rfl) rfl 0 rfl ?_
      refine x_iconst (pc := 8) (v := 1) C (by decide) (d_D_kindOf 4 rfl) ?_
      cases c7 : f_O_has i1 1 st with
      | none => rw [c7] at h; cases h
      | some v8 =>
        rw [c7] at h
        dsimp only at h
        refine x_callV (mc := 0) (ms := 0) (pc := 9) (bL := [xI (1)]) (K := []) C cs_D_242 (m_O_has l c7 : x_M l _ _ _ _ (.inl (some (xI v8))) _ 0 0) (by decide) rfl (Nat.le_of_ble_eq_true rfl) (d_D_kindOf 5 rfl) ?_
        refine x_if_eq (pc := 12) (tgt := 19) C (d_D_kindOf 6 rfl) (by decide) (fun c9 => ?_) (fun c9 => ?_)
        · rw [if_pos c9] at h
          refine x_iconst (pc := 19) (v := 2) C (by decide) (d_D_kindOf 9 rfl) ?_
          cases h
          exact x_iret (pc := 20) C hret rfl (Nat.zero_le _) (Nat.zero_le _) (d_D_kindOf 10 rfl)
        · rw [if_neg c9] at h
          refine x_iconst (pc := 15) (v := 1) C (by decide) (d_D_kindOf 7 rfl) ?_
          refine x_goto (pc := 16) (tgt := 20) C (d_D_kindOf 8 rfl) (by decide) ?_
          cases h
          exact x_iret (pc := 20) C hret rfl (Nat.zero_le _) (Nat.zero_le _) (d_D_kindOf 10 rfl)
def f_D_bytesIn (x0 : Nat) (x1 : Option Nat) (st : XS) : Option Int32 :=
  match x1 with
  | none => none
  | some i1 =>
    match st.2.2.1 2 i1 0 with
    | none =>
      match st.2.2.1 2 i1 1 with
      | none =>
        match st.2.2.1 0 x0 4 with
        | none => none
        | some i7 =>
          some (st.1 5 i7 2)
      | some i6 =>
        some (st.1 4 i6 1)
    | some i4 =>
      match st.2.2.1 3 i4 0 with
      | none => none
      | some i9 =>
        some (st.1 5 i9 2)
set_option maxRecDepth 100000 in
set_option maxHeartbeats 4000000 in
theorem m_D_bytesIn (l : Launch) {x0 : Nat} {x1 : Option Nat} {st : XS} {r : Int32} (h : f_D_bytesIn x0 x1 st = some r) : x_M l M_D_bytesIn rm_D_bytesIn [xR 0 (some (x0)), xR 2 (x1)] st (.inl (some (xI r))) st 0 0 := by
  refine x_enter (Nat.le_of_ble_eq_true rfl) ?_
  intro p e s m below meth c D cA g args B C
  have hret := B.2.2.2.2.2.2.2.2.1
  have hmn := B.2.2.2.2.2.2.2.1
  have hex := B.2.2.2.2.2.2.2.2.2.1
  unfold f_D_bytesIn at h
  refine x_aload_n (pc := 0) C (d_D_bytesIn 0 rfl) rfl 1 rfl ?_
  cases c2 : x1 with
  | none => rw [c2] at h; cases h
  | some i1 =>
    rw [c2] at h
    dsimp only at h
    refine x_getR (pc := 1) (t := 3) C fl_D_246 rfl rfl (d_D_bytesIn 1 rfl) ?_
    refine x_ifnull (pc := 4) (tgt := 18) C (d_D_bytesIn 2 rfl) (by decide) (fun c3 => ?_) (fun i4 c3 => ?_)
    · rw [c3] at h; try rw [c3]
      dsimp only at h
      refine x_aload_n (pc := 18) C (d_D_bytesIn 8 rfl) rfl 1 rfl ?_
      refine x_getR (pc := 19) (t := 4) C fl_D_158 rfl rfl (d_D_bytesIn 9 rfl) ?_
      refine x_ifnull (pc := 22) (tgt := 35) C (d_D_bytesIn 10 rfl) (by decide) (fun c5 => ?_) (fun i6 c5 => ?_)
      · rw [c5] at h; try rw [c5]
        dsimp only at h
        refine x_aload_n (pc := 35) C (d_D_bytesIn 15 rfl) rfl 0 rfl ?_
        refine x_getR (pc := 36) (t := 5) C fl_D_36 rfl rfl (d_D_bytesIn 16 rfl) ?_
        cases c8 : st.2.2.1 0 x0 4 with
        | none => rw [c8] at h; cases h
        | some i7 =>
          rw [c8] at h
          dsimp only at h
          refine x_getI (pc := 39) C fl_D_169 rfl (d_D_bytesIn 17 rfl) ?_
          cases h
          exact x_iret (pc := 42) C hret rfl (Nat.zero_le _) (Nat.zero_le _) (d_D_bytesIn 18 rfl)
      · rw [c5] at h; try rw [c5]
        dsimp only at h
        refine x_aload_n (pc := 25) C (d_D_bytesIn 11 rfl) rfl 1 rfl ?_
        refine x_getR (pc := 26) (t := 4) C fl_D_158 rfl rfl (d_D_bytesIn 12 rfl) ?_
        rw [c5]
        refine x_getI (pc := 29) C fl_D_115 rfl (d_D_bytesIn 13 rfl) ?_
        refine x_goto (pc := 32) (tgt := 42) C (d_D_bytesIn 14 rfl) (by decide) ?_
        cases h
        exact x_iret (pc := 42) C hret rfl (Nat.zero_le _) (Nat.zero_le _) (d_D_bytesIn 18 rfl)
    · rw [c3] at h; try rw [c3]
      dsimp only at h
      refine x_aload_n (pc := 7) C (d_D_bytesIn 3 rfl) rfl 1 rfl ?_
      refine x_getR (pc := 8) (t := 3) C fl_D_246 rfl rfl (d_D_bytesIn 4 rfl) ?_
      rw [c3]
      refine x_getR (pc := 11) (t := 5) C fl_D_250 rfl rfl (d_D_bytesIn 5 rfl) ?_
      cases c10 : st.2.2.1 3 i4 0 with
      | none => rw [c10] at h; cases h
      | some i9 =>
        rw [c10] at h
        dsimp only at h
        refine x_getI (pc := 14) C fl_D_169 rfl (d_D_bytesIn 6 rfl) ?_
        cases h
        exact x_iret (pc := 17) C hret rfl (Nat.zero_le _) (Nat.zero_le _) (d_D_bytesIn 7 rfl)
def f_D_about (x0 : Nat) (x1 : Int32) (x2 : Int32) (x3 : Int32) (st : XS) : Option Int32 :=
  if x1 < 0 then
    some ((-1))
  else
    if 8 ≤ x1 then
      some ((-1))
    else
      if x2 < 0 then
        some ((-1))
      else
        if x2 < 8 then
          match st.2.2.1 0 x0 0 with
          | none => none
          | some i5 =>
            if x_in x1 8 then
              match st.2.2.1 6 i5 x1.toNatClampNeg with
              | none => none
              | some i8 =>
                match f_P_openingAt i8 x2 st with
                | none => none
                | some v11 =>
                  match v11 with
                  | none =>
                    if x3 = 0 then
                      some (0)
                    else
                      some ((-1))
                  | some i13 =>
                    if x3 = 0 then
                      match f_D_kindOf (some (i13)) st with
                      | none => none
                      | some v17 =>
                        some (v17)
                    else if x3 = 1 then
                      some (st.1 2 i13 4)
                    else if x3 = 2 then
                      match f_D_bytesIn x0 (some (i13)) st with
                      | none => none
                      | some v22 =>
                        some (v22)
                    else if x3 = 3 then
                      some (st.1 2 i13 2)
                    else if x3 = 4 then
                      some (st.1 2 i13 3)
                    else
                      some ((-1))
            else none
        else
          some ((-1))
set_option maxRecDepth 100000 in
set_option maxHeartbeats 4000000 in
theorem m_D_about (l : Launch) {x0 : Nat} {x1 : Int32} {x2 : Int32} {x3 : Int32} {st : XS} {r : Int32} (h : f_D_about x0 x1 x2 x3 st = some r) : x_M l M_D_about rm_D_about [xR 0 (some (x0)), xI (x1), xI (x2), xI (x3)] st (.inl (some (xI r))) st 0 0 := by
  refine x_enter (Nat.le_of_ble_eq_true rfl) ?_
  intro p e s m below meth c D cA g args B C
  have hret := B.2.2.2.2.2.2.2.2.1
  have hmn := B.2.2.2.2.2.2.2.1
  have hex := B.2.2.2.2.2.2.2.2.2.1
  unfold f_D_about at h
  refine x_iload_n (pc := 0) C (d_D_about 0 rfl) rfl 1 rfl ?_
  refine x_if_lt (pc := 1) (tgt := 20) C (d_D_about 1 rfl) (by decide) (fun c1 => ?_) (fun c1 => ?_)
  · rw [if_pos c1] at h
    refine x_iconst (pc := 20) (v := (-1)) C (by decide) (d_D_about 10 rfl) ?_
    cases h
    exact x_iret (pc := 21) C hret rfl (Nat.zero_le _) (Nat.zero_le _) (d_D_about 11 rfl)
  · rw [if_neg c1] at h
    refine x_iload_n (pc := 4) C (d_D_about 2 rfl) rfl 1 rfl ?_
    refine x_bipush (pc := 5) (v := 8) C (by decide) (d_D_about 3 rfl) ?_
    refine x_icmp_ge (pc := 7) (tgt := 20) C (d_D_about 4 rfl) (by decide) (fun c2 => ?_) (fun c2 => ?_)
    · rw [if_pos c2] at h
      refine x_iconst (pc := 20) (v := (-1)) C (by decide) (d_D_about 10 rfl) ?_
      cases h
      exact x_iret (pc := 21) C hret rfl (Nat.zero_le _) (Nat.zero_le _) (d_D_about 11 rfl)
    · rw [if_neg c2] at h
      refine x_iload_n (pc := 10) C (d_D_about 5 rfl) rfl 2 rfl ?_
      refine x_if_lt (pc := 11) (tgt := 20) C (d_D_about 6 rfl) (by decide) (fun c3 => ?_) (fun c3 => ?_)
      · rw [if_pos c3] at h
        refine x_iconst (pc := 20) (v := (-1)) C (by decide) (d_D_about 10 rfl) ?_
        cases h
        exact x_iret (pc := 21) C hret rfl (Nat.zero_le _) (Nat.zero_le _) (d_D_about 11 rfl)
      · rw [if_neg c3] at h
        refine x_iload_n (pc := 14) C (d_D_about 7 rfl) rfl 2 rfl ?_
        refine x_bipush (pc := 15) (v := 8) C (by decide) (d_D_about 8 rfl) ?_
        refine x_icmp_lt (pc := 17) (tgt := 22) C (d_D_about 9 rfl) (by decide) (fun c4 => ?_) (fun c4 => ?_)
        · rw [if_pos c4] at h
          refine x_aload_n (pc := 22) C (d_D_about 12 rfl) rfl 0 rfl ?_
          refine x_getR (pc := 23) (t := 6) C fl_D_11 rfl rfl (d_D_about 13 rfl) ?_
          refine x_iload_n (pc := 26) C (d_D_about 14 rfl) rfl 1 rfl ?_
          cases c6 : st.2.2.1 0 x0 0 with
          | none => rw [c6] at h; cases h
          | some i5 =>
            rw [c6] at h
            dsimp only at h
            by_cases b7 : x_in x1 8
            · rw [if_pos b7] at h
              refine x_aald (pc := 27) C ar_6 b7 (d_D_about 15 rfl) ?_
              refine x_iload_n (pc := 28) C (d_D_about 16 rfl) rfl 2 rfl ?_
              cases c9 : st.2.2.1 6 i5 x1.toNatClampNeg with
              | none => rw [c9] at h; cases h
              | some i8 =>
                rw [c9] at h
                dsimp only at h
                cases c10 : f_P_openingAt i8 x2 st with
                | none => rw [c10] at h; cases h
                | some v11 =>
                  rw [c10] at h
                  dsimp only at h
                  refine x_callV (mc := 0) (ms := 0) (pc := 29) (bL := [xI (x2)]) (K := []) C cs_D_73 (m_P_openingAt l c10 : x_M l _ _ _ _ (.inl (some (xR 2 v11))) _ 0 0) (by decide) rfl (Nat.le_of_ble_eq_true rfl) (d_D_about 17 rfl) ?_
                  refine x_astore (pc := 32) (L2 := [(4, xR 2 (v11)), (0, xR 0 (some (x0))), (1, xI (x1)), (2, xI (x2)), (3, xI (x3))]) C (d_D_about 18 rfl) (by decide) rfl ?_
                  refine x_aload (pc := 34) C (d_D_about 19 rfl) 0 rfl ?_
                  refine x_ifnonnull (pc := 36) (tgt := 49) C (d_D_about 20 rfl) (by decide) (fun i13 c12 => ?_) (fun c12 => ?_)
                  · rw [c12] at h; try rw [c12]
                    dsimp only at h
                    refine x_iload_n (pc := 49) C (d_D_about 27 rfl) rfl 4 rfl ?_
                    by_cases c15 : x3 = 0
                    · rw [if_pos c15] at h
                      refine x_tsw (pc := 50) (v := 0) (tgt := 84) C (d_D_about 28 rfl) c15 (by decide) (by decide) rfl (by decide) ?_
                      refine x_aload (pc := 84) C (d_D_about 29 rfl) 0 rfl ?_
                      cases c16 : f_D_kindOf (some (i13)) st with
                      | none => rw [c16] at h; cases h
                      | some v17 =>
                        rw [c16] at h
                        dsimp only at h
                        refine x_callS (mc := 0) (ms := 0) (pc := 86) (aL := [xR 2 (some (i13))]) (K := []) C cs_D_187 (m_D_kindOf l c16 : x_M l _ _ _ _ (.inl (some (xI v17))) _ 0 0) (by decide) rfl (Nat.le_of_ble_eq_true rfl) (d_D_about 30 rfl) ?_
                        cases h
                        exact x_iret (pc := 89) C hret rfl (Nat.zero_le _) (Nat.zero_le _) (d_D_about 31 rfl)
                    rw [if_neg c15] at h
                    by_cases c19 : x3 = 1
                    · rw [if_pos c19] at h
                      refine x_tsw (pc := 50) (v := 1) (tgt := 90) C (d_D_about 28 rfl) c19 (by decide) (by decide) rfl (by decide) ?_
                      refine x_aload (pc := 90) C (d_D_about 32 rfl) 0 rfl ?_
                      refine x_getI (pc := 92) C fl_D_191 rfl (d_D_about 33 rfl) ?_
                      cases h
                      exact x_iret (pc := 95) C hret rfl (Nat.zero_le _) (Nat.zero_le _) (d_D_about 34 rfl)
                    rw [if_neg c19] at h
                    by_cases c20 : x3 = 2
                    · rw [if_pos c20] at h
                      refine x_tsw (pc := 50) (v := 2) (tgt := 96) C (d_D_about 28 rfl) c20 (by decide) (by decide) rfl (by decide) ?_
                      refine x_aload_n (pc := 96) C (d_D_about 35 rfl) rfl 1 rfl ?_
                      refine x_aload (pc := 97) C (d_D_about 36 rfl) 0 rfl ?_
                      cases c21 : f_D_bytesIn x0 (some (i13)) st with
                      | none => rw [c21] at h; cases h
                      | some v22 =>
                        rw [c21] at h
                        dsimp only at h
                        refine x_callV (mc := 0) (ms := 0) (pc := 99) (bL := [xR 2 (some (i13))]) (K := []) C cs_D_194 (m_D_bytesIn l c21 : x_M l _ _ _ _ (.inl (some (xI v22))) _ 0 0) (by decide) rfl (Nat.le_of_ble_eq_true rfl) (d_D_about 37 rfl) ?_
                        cases h
                        exact x_iret (pc := 102) C hret rfl (Nat.zero_le _) (Nat.zero_le _) (d_D_about 38 rfl)
                    rw [if_neg c20] at h
                    by_cases c24 : x3 = 3
                    · rw [if_pos c24] at h
                      refine x_tsw (pc := 50) (v := 3) (tgt := 103) C (d_D_about 28 rfl) c24 (by decide) (by decide) rfl (by decide) ?_
                      refine x_aload (pc := 103) C (d_D_about 39 rfl) 0 rfl ?_
                      refine x_getI (pc := 105) C fl_D_162 rfl (d_D_about 40 rfl) ?_
                      cases h
                      exact x_iret (pc := 108) C hret rfl (Nat.zero_le _) (Nat.zero_le _) (d_D_about 41 rfl)
                    rw [if_neg c24] at h
                    by_cases c25 : x3 = 4
                    · rw [if_pos c25] at h
                      refine x_tsw (pc := 50) (v := 4) (tgt := 109) C (d_D_about 28 rfl) c25 (by decide) (by decide) rfl (by decide) ?_
                      refine x_aload (pc := 109) C (d_D_about 42 rfl) 0 rfl ?_
                      refine x_getI (pc := 111) C fl_D_197 rfl (d_D_about 43 rfl) ?_
                      cases h
                      exact x_iret (pc := 114) C hret rfl (Nat.zero_le _) (Nat.zero_le _) (d_D_about 44 rfl)
                    rw [if_neg c25] at h
                    refine x_tout (pc := 50) (tgt := 115) C (d_D_about 28 rfl) (x_swo (fun k h1 h2 => by
                        have h3 : k = 0 ∨ k = 1 ∨ k = 2 ∨ k = 3 ∨ k = 4 := by omega
                        rcases h3 with rfl | rfl | rfl | rfl | rfl <;> assumption)) (by decide) ?_
                    refine x_iconst (pc := 115) (v := (-1)) C (by decide) (d_D_about 45 rfl) ?_
                    cases h
                    exact x_iret (pc := 116) C hret rfl (Nat.zero_le _) (Nat.zero_le _) (d_D_about 46 rfl)
                  · rw [c12] at h; try rw [c12]
                    dsimp only at h
                    refine x_iload_n (pc := 39) C (d_D_about 21 rfl) rfl 4 rfl ?_
                    refine x_if_ne (pc := 40) (tgt := 47) C (d_D_about 22 rfl) (by decide) (fun c14 => ?_) (fun c14 => ?_)
                    · rw [if_neg c14] at h
                      refine x_iconst (pc := 47) (v := (-1)) C (by decide) (d_D_about 25 rfl) ?_
                      cases h
                      exact x_iret (pc := 48) C hret rfl (Nat.zero_le _) (Nat.zero_le _) (d_D_about 26 rfl)
                    · rw [if_pos c14] at h
                      refine x_iconst (pc := 43) (v := 0) C (by decide) (d_D_about 23 rfl) ?_
                      refine x_goto (pc := 44) (tgt := 48) C (d_D_about 24 rfl) (by decide) ?_
                      cases h
                      exact x_iret (pc := 48) C hret rfl (Nat.zero_le _) (Nat.zero_le _) (d_D_about 26 rfl)
            · rw [if_neg b7] at h; cases h
        · rw [if_neg c4] at h
          refine x_iconst (pc := 20) (v := (-1)) C (by decide) (d_D_about 10 rfl) ?_
          cases h
          exact x_iret (pc := 21) C hret rfl (Nat.zero_le _) (Nat.zero_le _) (d_D_about 11 rfl)
def f_D_procsThere_13  : Nat → Int32 → Option Nat → Int32 → Int32 → XS → Option Int32
  | 0, _, _, _, _, _ => none
  | n + 1, x1, x2, x3, x4, st =>
    if x3 ≤ x4 then
      some (x1)
    else
      match x2 with
      | none => none
      | some i2 =>
        if x_in x4 8 then
          match st.2.2.1 6 i2 x4.toNatClampNeg with
          | none => none
          | some i5 =>
            if (st.1 1 i5 1) = 0 then
              f_D_procsThere_13 n (x1 + (0 : Int32)) (some (i2)) x3 (x4 + 1) st
            else
              f_D_procsThere_13 n (x1 + (1 : Int32)) (some (i2)) x3 (x4 + 1) st
        else none
set_option maxRecDepth 100000 in
set_option maxHeartbeats 4000000 in
theorem v_D_procsThere_13 {p : Program} {l : Launch} {e : Env} {s : State} {m : MethodId} {args : Array Value} {below : List Frame} {meth : Method} {c : Code} {D : va_G} {cA : Nat → ClassId} {g0 : Nat → Nat → Nat} {n0 : Nat → Nat} {r : Int32} (C : x_C p e rm_D_procsThere s m args meth c D cA (x_A g0 n0 s.heap.size) M_D_procsThere.2.1 M_D_procsThere.1 M_D_procsThere.2.2.1) (hret : meth.sig.returnType = M_D_procsThere.2.2.2.1) (hmn : meth.name = M_D_procsThere.2.2.2.2.2) (hex : c.exceptionTable.toList.map (fun h => (h.startPc, h.endPc, h.handlerPc, h.catchType)) = M_D_procsThere.2.2.2.2.1)  : ∀ (n : Nat) (x1 : Int32) (x2 : Option Nat) (x3 : Int32) (x4 : Int32) (st : XS), f_D_procsThere_13 n x1 x2 x3 x4 st = some r → x_V p l e rm_D_procsThere s m args below meth c D cA (x_A g0 n0 s.heap.size) M_D_procsThere.2.2.1 g0 n0 (x_MQ D cA g0 n0 below s 0 0 (.inl (some (xI r))) st) 13 [(1, xI (x1)), (2, xR 6 (x2)), (3, xI (x3)), (4, xI (x4))] [] st 0 0 := by
  intro n
  induction n with
  | zero => intro x1 x2 x3 x4 st h; cases h
  | succ n ih =>
    intro x1 x2 x3 x4 st h
    rw [f_D_procsThere_13.eq_def] at h
    dsimp only at h
    refine x_iload (pc := 13) C (d_D_procsThere 10 rfl) 3 rfl ?_
    refine x_iload_n (pc := 15) C (d_D_procsThere 11 rfl) rfl 2 rfl ?_
    refine x_icmp_ge (pc := 16) (tgt := 47) C (d_D_procsThere 12 rfl) (by decide) (fun c1 => ?_) (fun c1 => ?_)
    · rw [if_pos c1] at h
      refine x_iload_n (pc := 47) C (d_D_procsThere 28 rfl) rfl 0 rfl ?_
      cases h
      exact x_iret (pc := 48) C hret rfl (Nat.zero_le _) (Nat.zero_le _) (d_D_procsThere 29 rfl)
    · rw [if_neg c1] at h
      refine x_aload_n (pc := 19) C (d_D_procsThere 13 rfl) rfl 1 rfl ?_
      refine x_iload (pc := 20) C (d_D_procsThere 14 rfl) 3 rfl ?_
      cases c3 : x2 with
      | none => rw [c3] at h; cases h
      | some i2 =>
        rw [c3] at h
        dsimp only at h
        by_cases b4 : x_in x4 8
        · rw [if_pos b4] at h
          refine x_aald (pc := 22) C ar_6 b4 (d_D_procsThere 15 rfl) ?_
          refine x_astore (pc := 23) (L2 := [(5, xR 1 (st.2.2.1 6 i2 x4.toNatClampNeg)), (1, xI (x1)), (2, xR 6 (some (i2))), (3, xI (x3)), (4, xI (x4))]) C (d_D_procsThere 16 rfl) (by decide) rfl ?_
          refine x_iload_n (pc := 25) C (d_D_procsThere 17 rfl) rfl 1 rfl ?_
          refine x_aload (pc := 26) C (d_D_procsThere 18 rfl) 0 rfl ?_
          cases c6 : st.2.2.1 6 i2 x4.toNatClampNeg with
          | none => rw [c6] at h; cases h
          | some i5 =>
            rw [c6] at h
            dsimp only at h
            refine x_getI (pc := 28) C fl_D_178 rfl (d_D_procsThere 19 rfl) ?_
            refine x_if_eq (pc := 31) (tgt := 38) C (d_D_procsThere 20 rfl) (by decide) (fun c7 => ?_) (fun c7 => ?_)
            · rw [if_pos c7] at h
              refine x_iconst (pc := 38) (v := 0) C (by decide) (d_D_procsThere 23 rfl) ?_
              refine x_iadd (pc := 39) C (d_D_procsThere 24 rfl) ?_
              refine x_istore_n (pc := 40) (L2 := [(1, xI (x1 + (0 : Int32))), (5, xR 1 (some (i5))), (2, xR 6 (some (i2))), (3, xI (x3)), (4, xI (x4))]) C (d_D_procsThere 25 rfl) rfl (by decide) rfl ?_
              refine x_iinc (pc := 41) (v := x4 + 1) (L2 := [(4, xI (x4 + 1)), (1, xI (x1 + (0 : Int32))), (5, xR 1 (some (i5))), (2, xR 6 (some (i2))), (3, xI (x3))]) C (d_D_procsThere 26 rfl) 4 rfl rfl (by decide) rfl ?_
              refine x_goto (pc := 44) (tgt := 13) C (d_D_procsThere 27 rfl) (by decide) ?_
              exact x_sub [1, 3, 4, 0] rfl (ih _ _ _ _ _ h)
            · rw [if_neg c7] at h
              refine x_iconst (pc := 34) (v := 1) C (by decide) (d_D_procsThere 21 rfl) ?_
              refine x_goto (pc := 35) (tgt := 39) C (d_D_procsThere 22 rfl) (by decide) ?_
              refine x_iadd (pc := 39) C (d_D_procsThere 24 rfl) ?_
              refine x_istore_n (pc := 40) (L2 := [(1, xI (x1 + (1 : Int32))), (5, xR 1 (some (i5))), (2, xR 6 (some (i2))), (3, xI (x3)), (4, xI (x4))]) C (d_D_procsThere 25 rfl) rfl (by decide) rfl ?_
              refine x_iinc (pc := 41) (v := x4 + 1) (L2 := [(4, xI (x4 + 1)), (1, xI (x1 + (1 : Int32))), (5, xR 1 (some (i5))), (2, xR 6 (some (i2))), (3, xI (x3))]) C (d_D_procsThere 26 rfl) 4 rfl rfl (by decide) rfl ?_
              refine x_goto (pc := 44) (tgt := 13) C (d_D_procsThere 27 rfl) (by decide) ?_
              exact x_sub [1, 3, 4, 0] rfl (ih _ _ _ _ _ h)
        · rw [if_neg b4] at h; cases h
def f_D_procsThere (x0 : Nat) (st : XS) : Option Int32 :=
  match st.2.2.1 0 x0 0 with
  | none => none
  | some i8 =>
    f_D_procsThere_13 100 0 (some (i8)) 8 0 st
set_option maxRecDepth 100000 in
set_option maxHeartbeats 4000000 in
theorem m_D_procsThere (l : Launch) {x0 : Nat} {st : XS} {r : Int32} (h : f_D_procsThere x0 st = some r) : x_M l M_D_procsThere rm_D_procsThere [xR 0 (some (x0))] st (.inl (some (xI r))) st 0 0 := by
  refine x_enter (Nat.le_of_ble_eq_true rfl) ?_
  intro p e s m below meth c D cA g args B C
  have hret := B.2.2.2.2.2.2.2.2.1
  have hmn := B.2.2.2.2.2.2.2.1
  have hex := B.2.2.2.2.2.2.2.2.2.1
  unfold f_D_procsThere at h
  refine x_iconst (pc := 0) (v := 0) C (by decide) (d_D_procsThere 0 rfl) ?_
  refine x_istore_n (pc := 1) (L2 := [(1, xI (0)), (0, xR 0 (some (x0)))]) C (d_D_procsThere 1 rfl) rfl (by decide) rfl ?_
  refine x_aload_n (pc := 2) C (d_D_procsThere 2 rfl) rfl 1 rfl ?_
  refine x_getR (pc := 3) (t := 6) C fl_D_11 rfl rfl (d_D_procsThere 3 rfl) ?_
  refine x_astore_n (pc := 6) (L2 := [(2, xR 6 (st.2.2.1 0 x0 0)), (1, xI (0)), (0, xR 0 (some (x0)))]) C (d_D_procsThere 4 rfl) rfl (by decide) rfl ?_
  refine x_aload_n (pc := 7) C (d_D_procsThere 5 rfl) rfl 0 rfl ?_
  cases c9 : st.2.2.1 0 x0 0 with
  | none => rw [c9] at h; cases h
  | some i8 =>
    rw [c9] at h
    dsimp only at h
    refine x_alen (pc := 8) (v := 8) C ar_6 rfl (d_D_procsThere 6 rfl) ?_
    refine x_istore_n (pc := 9) (L2 := [(3, xI (8)), (2, xR 6 (some (i8))), (1, xI (0)), (0, xR 0 (some (x0)))]) C (d_D_procsThere 7 rfl) rfl (by decide) rfl ?_
    refine x_iconst (pc := 10) (v := 0) C (by decide) (d_D_procsThere 8 rfl) ?_
    refine x_istore (pc := 11) (L2 := [(4, xI (0)), (3, xI (8)), (2, xR 6 (some (i8))), (1, xI (0)), (0, xR 0 (some (x0)))]) C (d_D_procsThere 9 rfl) (by decide) rfl ?_
    exact x_sub [3, 2, 1, 0] rfl (v_D_procsThere_13 C hret hmn hex 100 _ _ _ _ _ h)
def f_D_procsWaiting_13  : Nat → Int32 → Option Nat → Int32 → Int32 → XS → Option Int32
  | 0, _, _, _, _, _ => none
  | n + 1, x1, x2, x3, x4, st =>
    if x3 ≤ x4 then
      some (x1)
    else
      match x2 with
      | none => none
      | some i2 =>
        if x_in x4 8 then
          match st.2.2.1 6 i2 x4.toNatClampNeg with
          | none => none
          | some i5 =>
            match f_P_isWaiting i5 st with
            | none => none
            | some v8 =>
              if v8 = 0 then
                f_D_procsWaiting_13 n (x1 + (0 : Int32)) (some (i2)) x3 (x4 + 1) st
              else
                f_D_procsWaiting_13 n (x1 + (1 : Int32)) (some (i2)) x3 (x4 + 1) st
        else none
set_option maxRecDepth 100000 in
set_option maxHeartbeats 4000000 in
theorem v_D_procsWaiting_13 {p : Program} {l : Launch} {e : Env} {s : State} {m : MethodId} {args : Array Value} {below : List Frame} {meth : Method} {c : Code} {D : va_G} {cA : Nat → ClassId} {g0 : Nat → Nat → Nat} {n0 : Nat → Nat} {r : Int32} (C : x_C p e rm_D_procsWaiting s m args meth c D cA (x_A g0 n0 s.heap.size) M_D_procsWaiting.2.1 M_D_procsWaiting.1 M_D_procsWaiting.2.2.1) (hret : meth.sig.returnType = M_D_procsWaiting.2.2.2.1) (hmn : meth.name = M_D_procsWaiting.2.2.2.2.2) (hex : c.exceptionTable.toList.map (fun h => (h.startPc, h.endPc, h.handlerPc, h.catchType)) = M_D_procsWaiting.2.2.2.2.1)  : ∀ (n : Nat) (x1 : Int32) (x2 : Option Nat) (x3 : Int32) (x4 : Int32) (st : XS), f_D_procsWaiting_13 n x1 x2 x3 x4 st = some r → x_V p l e rm_D_procsWaiting s m args below meth c D cA (x_A g0 n0 s.heap.size) M_D_procsWaiting.2.2.1 g0 n0 (x_MQ D cA g0 n0 below s 0 0 (.inl (some (xI r))) st) 13 [(1, xI (x1)), (2, xR 6 (x2)), (3, xI (x3)), (4, xI (x4))] [] st 0 0 := by
  intro n
  induction n with
  | zero => intro x1 x2 x3 x4 st h; cases h
  | succ n ih =>
    intro x1 x2 x3 x4 st h
    rw [f_D_procsWaiting_13.eq_def] at h
    dsimp only at h
    refine x_iload (pc := 13) C (d_D_procsWaiting 10 rfl) 3 rfl ?_
    refine x_iload_n (pc := 15) C (d_D_procsWaiting 11 rfl) rfl 2 rfl ?_
    refine x_icmp_ge (pc := 16) (tgt := 47) C (d_D_procsWaiting 12 rfl) (by decide) (fun c1 => ?_) (fun c1 => ?_)
    · rw [if_pos c1] at h
      refine x_iload_n (pc := 47) C (d_D_procsWaiting 28 rfl) rfl 0 rfl ?_
      cases h
      exact x_iret (pc := 48) C hret rfl (Nat.zero_le _) (Nat.zero_le _) (d_D_procsWaiting 29 rfl)
    · rw [if_neg c1] at h
      refine x_aload_n (pc := 19) C (d_D_procsWaiting 13 rfl) rfl 1 rfl ?_
      refine x_iload (pc := 20) C (d_D_procsWaiting 14 rfl) 3 rfl ?_
      cases c3 : x2 with
      | none => rw [c3] at h; cases h
      | some i2 =>
        rw [c3] at h
        dsimp only at h
        by_cases b4 : x_in x4 8
        · rw [if_pos b4] at h
          refine x_aald (pc := 22) C ar_6 b4 (d_D_procsWaiting 15 rfl) ?_
          refine x_astore (pc := 23) (L2 := [(5, xR 1 (st.2.2.1 6 i2 x4.toNatClampNeg)), (1, xI (x1)), (2, xR 6 (some (i2))), (3, xI (x3)), (4, xI (x4))]) C (d_D_procsWaiting 16 rfl) (by decide) rfl ?_
          refine x_iload_n (pc := 25) C (d_D_procsWaiting 17 rfl) rfl 1 rfl ?_
          refine x_aload (pc := 26) C (d_D_procsWaiting 18 rfl) 0 rfl ?_
          cases c6 : st.2.2.1 6 i2 x4.toNatClampNeg with
          | none => rw [c6] at h; cases h
          | some i5 =>
            rw [c6] at h
            dsimp only at h
            cases c7 : f_P_isWaiting i5 st with
            | none => rw [c7] at h; cases h
            | some v8 =>
              rw [c7] at h
              dsimp only at h
              refine x_callV (mc := 0) (ms := 0) (pc := 28) (bL := []) (K := [xI (x1)]) C cs_D_301 (m_P_isWaiting l c7 : x_M l _ _ _ _ (.inl (some (xI v8))) _ 0 0) (by decide) rfl (Nat.le_of_ble_eq_true rfl) (d_D_procsWaiting 19 rfl) ?_
              refine x_if_eq (pc := 31) (tgt := 38) C (d_D_procsWaiting 20 rfl) (by decide) (fun c9 => ?_) (fun c9 => ?_)
              · rw [if_pos c9] at h
                refine x_iconst (pc := 38) (v := 0) C (by decide) (d_D_procsWaiting 23 rfl) ?_
                refine x_iadd (pc := 39) C (d_D_procsWaiting 24 rfl) ?_
                refine x_istore_n (pc := 40) (L2 := [(1, xI (x1 + (0 : Int32))), (5, xR 1 (some (i5))), (2, xR 6 (some (i2))), (3, xI (x3)), (4, xI (x4))]) C (d_D_procsWaiting 25 rfl) rfl (by decide) rfl ?_
                refine x_iinc (pc := 41) (v := x4 + 1) (L2 := [(4, xI (x4 + 1)), (1, xI (x1 + (0 : Int32))), (5, xR 1 (some (i5))), (2, xR 6 (some (i2))), (3, xI (x3))]) C (d_D_procsWaiting 26 rfl) 4 rfl rfl (by decide) rfl ?_
                refine x_goto (pc := 44) (tgt := 13) C (d_D_procsWaiting 27 rfl) (by decide) ?_
                exact x_sub [1, 3, 4, 0] rfl (ih _ _ _ _ _ h)
              · rw [if_neg c9] at h
                refine x_iconst (pc := 34) (v := 1) C (by decide) (d_D_procsWaiting 21 rfl) ?_
                refine x_goto (pc := 35) (tgt := 39) C (d_D_procsWaiting 22 rfl) (by decide) ?_
                refine x_iadd (pc := 39) C (d_D_procsWaiting 24 rfl) ?_
                refine x_istore_n (pc := 40) (L2 := [(1, xI (x1 + (1 : Int32))), (5, xR 1 (some (i5))), (2, xR 6 (some (i2))), (3, xI (x3)), (4, xI (x4))]) C (d_D_procsWaiting 25 rfl) rfl (by decide) rfl ?_
                refine x_iinc (pc := 41) (v := x4 + 1) (L2 := [(4, xI (x4 + 1)), (1, xI (x1 + (1 : Int32))), (5, xR 1 (some (i5))), (2, xR 6 (some (i2))), (3, xI (x3))]) C (d_D_procsWaiting 26 rfl) 4 rfl rfl (by decide) rfl ?_
                refine x_goto (pc := 44) (tgt := 13) C (d_D_procsWaiting 27 rfl) (by decide) ?_
                exact x_sub [1, 3, 4, 0] rfl (ih _ _ _ _ _ h)
        · rw [if_neg b4] at h; cases h
def f_D_procsWaiting (x0 : Nat) (st : XS) : Option Int32 :=
  match st.2.2.1 0 x0 0 with
  | none => none
  | some i11 =>
    f_D_procsWaiting_13 100 0 (some (i11)) 8 0 st
set_option maxRecDepth 100000 in
set_option maxHeartbeats 4000000 in
theorem m_D_procsWaiting (l : Launch) {x0 : Nat} {st : XS} {r : Int32} (h : f_D_procsWaiting x0 st = some r) : x_M l M_D_procsWaiting rm_D_procsWaiting [xR 0 (some (x0))] st (.inl (some (xI r))) st 0 0 := by
  refine x_enter (Nat.le_of_ble_eq_true rfl) ?_
  intro p e s m below meth c D cA g args B C
  have hret := B.2.2.2.2.2.2.2.2.1
  have hmn := B.2.2.2.2.2.2.2.1
  have hex := B.2.2.2.2.2.2.2.2.2.1
  unfold f_D_procsWaiting at h
  refine x_iconst (pc := 0) (v := 0) C (by decide) (d_D_procsWaiting 0 rfl) ?_
  refine x_istore_n (pc := 1) (L2 := [(1, xI (0)), (0, xR 0 (some (x0)))]) C (d_D_procsWaiting 1 rfl) rfl (by decide) rfl ?_
  refine x_aload_n (pc := 2) C (d_D_procsWaiting 2 rfl) rfl 1 rfl ?_
  refine x_getR (pc := 3) (t := 6) C fl_D_11 rfl rfl (d_D_procsWaiting 3 rfl) ?_
  refine x_astore_n (pc := 6) (L2 := [(2, xR 6 (st.2.2.1 0 x0 0)), (1, xI (0)), (0, xR 0 (some (x0)))]) C (d_D_procsWaiting 4 rfl) rfl (by decide) rfl ?_
  refine x_aload_n (pc := 7) C (d_D_procsWaiting 5 rfl) rfl 0 rfl ?_
  cases c12 : st.2.2.1 0 x0 0 with
  | none => rw [c12] at h; cases h
  | some i11 =>
    rw [c12] at h
    dsimp only at h
    refine x_alen (pc := 8) (v := 8) C ar_6 rfl (d_D_procsWaiting 6 rfl) ?_
    refine x_istore_n (pc := 9) (L2 := [(3, xI (8)), (2, xR 6 (some (i11))), (1, xI (0)), (0, xR 0 (some (x0)))]) C (d_D_procsWaiting 7 rfl) rfl (by decide) rfl ?_
    refine x_iconst (pc := 10) (v := 0) C (by decide) (d_D_procsWaiting 8 rfl) ?_
    refine x_istore (pc := 11) (L2 := [(4, xI (0)), (3, xI (8)), (2, xR 6 (some (i11))), (1, xI (0)), (0, xR 0 (some (x0)))]) C (d_D_procsWaiting 9 rfl) (by decide) rfl ?_
    exact x_sub [3, 2, 1, 0] rfl (v_D_procsWaiting_13 C hret hmn hex 100 _ _ _ _ _ h)
def f_D_openingsThere_13  : Nat → Int32 → Option Nat → Int32 → Int32 → XS → Option Int32
  | 0, _, _, _, _, _ => none
  | n + 1, x1, x2, x3, x4, st =>
    if x3 ≤ x4 then
      some (x1)
    else
      match x2 with
      | none => none
      | some i2 =>
        if x_in x4 20 then
          match st.2.2.1 7 i2 x4.toNatClampNeg with
          | none => none
          | some i5 =>
            if (st.1 2 i5 4) ≤ 0 then
              f_D_openingsThere_13 n (x1 + (0 : Int32)) (some (i2)) x3 (x4 + 1) st
            else
              f_D_openingsThere_13 n (x1 + (1 : Int32)) (some (i2)) x3 (x4 + 1) st
        else none
set_option maxRecDepth 100000 in
set_option maxHeartbeats 4000000 in
theorem v_D_openingsThere_13 {p : Program} {l : Launch} {e : Env} {s : State} {m : MethodId} {args : Array Value} {below : List Frame} {meth : Method} {c : Code} {D : va_G} {cA : Nat → ClassId} {g0 : Nat → Nat → Nat} {n0 : Nat → Nat} {r : Int32} (C : x_C p e rm_D_openingsThere s m args meth c D cA (x_A g0 n0 s.heap.size) M_D_openingsThere.2.1 M_D_openingsThere.1 M_D_openingsThere.2.2.1) (hret : meth.sig.returnType = M_D_openingsThere.2.2.2.1) (hmn : meth.name = M_D_openingsThere.2.2.2.2.2) (hex : c.exceptionTable.toList.map (fun h => (h.startPc, h.endPc, h.handlerPc, h.catchType)) = M_D_openingsThere.2.2.2.2.1)  : ∀ (n : Nat) (x1 : Int32) (x2 : Option Nat) (x3 : Int32) (x4 : Int32) (st : XS), f_D_openingsThere_13 n x1 x2 x3 x4 st = some r → x_V p l e rm_D_openingsThere s m args below meth c D cA (x_A g0 n0 s.heap.size) M_D_openingsThere.2.2.1 g0 n0 (x_MQ D cA g0 n0 below s 0 0 (.inl (some (xI r))) st) 13 [(1, xI (x1)), (2, xR 7 (x2)), (3, xI (x3)), (4, xI (x4))] [] st 0 0 := by
  intro n
  induction n with
  | zero => intro x1 x2 x3 x4 st h; cases h
  | succ n ih =>
    intro x1 x2 x3 x4 st h
    rw [f_D_openingsThere_13.eq_def] at h
    dsimp only at h
    refine x_iload (pc := 13) C (d_D_openingsThere 10 rfl) 3 rfl ?_
    refine x_iload_n (pc := 15) C (d_D_openingsThere 11 rfl) rfl 2 rfl ?_
    refine x_icmp_ge (pc := 16) (tgt := 47) C (d_D_openingsThere 12 rfl) (by decide) (fun c1 => ?_) (fun c1 => ?_)
    · rw [if_pos c1] at h
      refine x_iload_n (pc := 47) C (d_D_openingsThere 28 rfl) rfl 0 rfl ?_
      cases h
      exact x_iret (pc := 48) C hret rfl (Nat.zero_le _) (Nat.zero_le _) (d_D_openingsThere 29 rfl)
    · rw [if_neg c1] at h
      refine x_aload_n (pc := 19) C (d_D_openingsThere 13 rfl) rfl 1 rfl ?_
      refine x_iload (pc := 20) C (d_D_openingsThere 14 rfl) 3 rfl ?_
      cases c3 : x2 with
      | none => rw [c3] at h; cases h
      | some i2 =>
        rw [c3] at h
        dsimp only at h
        by_cases b4 : x_in x4 20
        · rw [if_pos b4] at h
          refine x_aald (pc := 22) C ar_7 b4 (d_D_openingsThere 15 rfl) ?_
          refine x_astore (pc := 23) (L2 := [(5, xR 2 (st.2.2.1 7 i2 x4.toNatClampNeg)), (1, xI (x1)), (2, xR 7 (some (i2))), (3, xI (x3)), (4, xI (x4))]) C (d_D_openingsThere 16 rfl) (by decide) rfl ?_
          refine x_iload_n (pc := 25) C (d_D_openingsThere 17 rfl) rfl 1 rfl ?_
          refine x_aload (pc := 26) C (d_D_openingsThere 18 rfl) 0 rfl ?_
          cases c6 : st.2.2.1 7 i2 x4.toNatClampNeg with
          | none => rw [c6] at h; cases h
          | some i5 =>
            rw [c6] at h
            dsimp only at h
            refine x_getI (pc := 28) C fl_D_191 rfl (d_D_openingsThere 19 rfl) ?_
            refine x_if_le (pc := 31) (tgt := 38) C (d_D_openingsThere 20 rfl) (by decide) (fun c7 => ?_) (fun c7 => ?_)
            · rw [if_pos c7] at h
              refine x_iconst (pc := 38) (v := 0) C (by decide) (d_D_openingsThere 23 rfl) ?_
              refine x_iadd (pc := 39) C (d_D_openingsThere 24 rfl) ?_
              refine x_istore_n (pc := 40) (L2 := [(1, xI (x1 + (0 : Int32))), (5, xR 2 (some (i5))), (2, xR 7 (some (i2))), (3, xI (x3)), (4, xI (x4))]) C (d_D_openingsThere 25 rfl) rfl (by decide) rfl ?_
              refine x_iinc (pc := 41) (v := x4 + 1) (L2 := [(4, xI (x4 + 1)), (1, xI (x1 + (0 : Int32))), (5, xR 2 (some (i5))), (2, xR 7 (some (i2))), (3, xI (x3))]) C (d_D_openingsThere 26 rfl) 4 rfl rfl (by decide) rfl ?_
              refine x_goto (pc := 44) (tgt := 13) C (d_D_openingsThere 27 rfl) (by decide) ?_
              exact x_sub [1, 3, 4, 0] rfl (ih _ _ _ _ _ h)
            · rw [if_neg c7] at h
              refine x_iconst (pc := 34) (v := 1) C (by decide) (d_D_openingsThere 21 rfl) ?_
              refine x_goto (pc := 35) (tgt := 39) C (d_D_openingsThere 22 rfl) (by decide) ?_
              refine x_iadd (pc := 39) C (d_D_openingsThere 24 rfl) ?_
              refine x_istore_n (pc := 40) (L2 := [(1, xI (x1 + (1 : Int32))), (5, xR 2 (some (i5))), (2, xR 7 (some (i2))), (3, xI (x3)), (4, xI (x4))]) C (d_D_openingsThere 25 rfl) rfl (by decide) rfl ?_
              refine x_iinc (pc := 41) (v := x4 + 1) (L2 := [(4, xI (x4 + 1)), (1, xI (x1 + (1 : Int32))), (5, xR 2 (some (i5))), (2, xR 7 (some (i2))), (3, xI (x3))]) C (d_D_openingsThere 26 rfl) 4 rfl rfl (by decide) rfl ?_
              refine x_goto (pc := 44) (tgt := 13) C (d_D_openingsThere 27 rfl) (by decide) ?_
              exact x_sub [1, 3, 4, 0] rfl (ih _ _ _ _ _ h)
        · rw [if_neg b4] at h; cases h
def f_D_openingsThere (x0 : Nat) (st : XS) : Option Int32 :=
  match st.2.2.1 0 x0 1 with
  | none => none
  | some i8 =>
    f_D_openingsThere_13 100 0 (some (i8)) 20 0 st
set_option maxRecDepth 100000 in
set_option maxHeartbeats 4000000 in
theorem m_D_openingsThere (l : Launch) {x0 : Nat} {st : XS} {r : Int32} (h : f_D_openingsThere x0 st = some r) : x_M l M_D_openingsThere rm_D_openingsThere [xR 0 (some (x0))] st (.inl (some (xI r))) st 0 0 := by
  refine x_enter (Nat.le_of_ble_eq_true rfl) ?_
  intro p e s m below meth c D cA g args B C
  have hret := B.2.2.2.2.2.2.2.2.1
  have hmn := B.2.2.2.2.2.2.2.1
  have hex := B.2.2.2.2.2.2.2.2.2.1
  unfold f_D_openingsThere at h
  refine x_iconst (pc := 0) (v := 0) C (by decide) (d_D_openingsThere 0 rfl) ?_
  refine x_istore_n (pc := 1) (L2 := [(1, xI (0)), (0, xR 0 (some (x0)))]) C (d_D_openingsThere 1 rfl) rfl (by decide) rfl ?_
  refine x_aload_n (pc := 2) C (d_D_openingsThere 2 rfl) rfl 1 rfl ?_
  refine x_getR (pc := 3) (t := 7) C fl_D_17 rfl rfl (d_D_openingsThere 3 rfl) ?_
  refine x_astore_n (pc := 6) (L2 := [(2, xR 7 (st.2.2.1 0 x0 1)), (1, xI (0)), (0, xR 0 (some (x0)))]) C (d_D_openingsThere 4 rfl) rfl (by decide) rfl ?_
  refine x_aload_n (pc := 7) C (d_D_openingsThere 5 rfl) rfl 0 rfl ?_
  cases c9 : st.2.2.1 0 x0 1 with
  | none => rw [c9] at h; cases h
  | some i8 =>
    rw [c9] at h
    dsimp only at h
    refine x_alen (pc := 8) (v := 20) C ar_7 rfl (d_D_openingsThere 6 rfl) ?_
    refine x_istore_n (pc := 9) (L2 := [(3, xI (20)), (2, xR 7 (some (i8))), (1, xI (0)), (0, xR 0 (some (x0)))]) C (d_D_openingsThere 7 rfl) rfl (by decide) rfl ?_
    refine x_iconst (pc := 10) (v := 0) C (by decide) (d_D_openingsThere 8 rfl) ?_
    refine x_istore (pc := 11) (L2 := [(4, xI (0)), (3, xI (20)), (2, xR 7 (some (i8))), (1, xI (0)), (0, xR 0 (some (x0)))]) C (d_D_openingsThere 9 rfl) (by decide) rfl ?_
    exact x_sub [3, 2, 1, 0] rfl (v_D_openingsThere_13 C hret hmn hex 100 _ _ _ _ _ h)
def f_D_pipesThere_13  : Nat → Int32 → Option Nat → Int32 → Int32 → XS → Option Int32
  | 0, _, _, _, _, _ => none
  | n + 1, x1, x2, x3, x4, st =>
    if x3 ≤ x4 then
      some (x1)
    else
      match x2 with
      | none => none
      | some i2 =>
        if x_in x4 6 then
          match st.2.2.1 8 i2 x4.toNatClampNeg with
          | none => none
          | some i5 =>
            match f_I_isThere i5 st with
            | none => none
            | some v8 =>
              if v8 = 0 then
                f_D_pipesThere_13 n (x1 + (0 : Int32)) (some (i2)) x3 (x4 + 1) st
              else
                f_D_pipesThere_13 n (x1 + (1 : Int32)) (some (i2)) x3 (x4 + 1) st
        else none
set_option maxRecDepth 100000 in
set_option maxHeartbeats 4000000 in
theorem v_D_pipesThere_13 {p : Program} {l : Launch} {e : Env} {s : State} {m : MethodId} {args : Array Value} {below : List Frame} {meth : Method} {c : Code} {D : va_G} {cA : Nat → ClassId} {g0 : Nat → Nat → Nat} {n0 : Nat → Nat} {r : Int32} (C : x_C p e rm_D_pipesThere s m args meth c D cA (x_A g0 n0 s.heap.size) M_D_pipesThere.2.1 M_D_pipesThere.1 M_D_pipesThere.2.2.1) (hret : meth.sig.returnType = M_D_pipesThere.2.2.2.1) (hmn : meth.name = M_D_pipesThere.2.2.2.2.2) (hex : c.exceptionTable.toList.map (fun h => (h.startPc, h.endPc, h.handlerPc, h.catchType)) = M_D_pipesThere.2.2.2.2.1)  : ∀ (n : Nat) (x1 : Int32) (x2 : Option Nat) (x3 : Int32) (x4 : Int32) (st : XS), f_D_pipesThere_13 n x1 x2 x3 x4 st = some r → x_V p l e rm_D_pipesThere s m args below meth c D cA (x_A g0 n0 s.heap.size) M_D_pipesThere.2.2.1 g0 n0 (x_MQ D cA g0 n0 below s 0 0 (.inl (some (xI r))) st) 13 [(1, xI (x1)), (2, xR 8 (x2)), (3, xI (x3)), (4, xI (x4))] [] st 0 0 := by
  intro n
  induction n with
  | zero => intro x1 x2 x3 x4 st h; cases h
  | succ n ih =>
    intro x1 x2 x3 x4 st h
    rw [f_D_pipesThere_13.eq_def] at h
    dsimp only at h
    refine x_iload (pc := 13) C (d_D_pipesThere 10 rfl) 3 rfl ?_
    refine x_iload_n (pc := 15) C (d_D_pipesThere 11 rfl) rfl 2 rfl ?_
    refine x_icmp_ge (pc := 16) (tgt := 47) C (d_D_pipesThere 12 rfl) (by decide) (fun c1 => ?_) (fun c1 => ?_)
    · rw [if_pos c1] at h
      refine x_iload_n (pc := 47) C (d_D_pipesThere 28 rfl) rfl 0 rfl ?_
      cases h
      exact x_iret (pc := 48) C hret rfl (Nat.zero_le _) (Nat.zero_le _) (d_D_pipesThere 29 rfl)
    · rw [if_neg c1] at h
      refine x_aload_n (pc := 19) C (d_D_pipesThere 13 rfl) rfl 1 rfl ?_
      refine x_iload (pc := 20) C (d_D_pipesThere 14 rfl) 3 rfl ?_
      cases c3 : x2 with
      | none => rw [c3] at h; cases h
      | some i2 =>
        rw [c3] at h
        dsimp only at h
        by_cases b4 : x_in x4 6
        · rw [if_pos b4] at h
          refine x_aald (pc := 22) C ar_8 b4 (d_D_pipesThere 15 rfl) ?_
          refine x_astore (pc := 23) (L2 := [(5, xR 3 (st.2.2.1 8 i2 x4.toNatClampNeg)), (1, xI (x1)), (2, xR 8 (some (i2))), (3, xI (x3)), (4, xI (x4))]) C (d_D_pipesThere 16 rfl) (by decide) rfl ?_
          refine x_iload_n (pc := 25) C (d_D_pipesThere 17 rfl) rfl 1 rfl ?_
          refine x_aload (pc := 26) C (d_D_pipesThere 18 rfl) 0 rfl ?_
          cases c6 : st.2.2.1 8 i2 x4.toNatClampNeg with
          | none => rw [c6] at h; cases h
          | some i5 =>
            rw [c6] at h
            dsimp only at h
            cases c7 : f_I_isThere i5 st with
            | none => rw [c7] at h; cases h
            | some v8 =>
              rw [c7] at h
              dsimp only at h
              refine x_callV (mc := 0) (ms := 0) (pc := 28) (bL := []) (K := [xI (x1)]) C cs_D_237 (m_I_isThere l c7 : x_M l _ _ _ _ (.inl (some (xI v8))) _ 0 0) (by decide) rfl (Nat.le_of_ble_eq_true rfl) (d_D_pipesThere 19 rfl) ?_
              refine x_if_eq (pc := 31) (tgt := 38) C (d_D_pipesThere 20 rfl) (by decide) (fun c9 => ?_) (fun c9 => ?_)
              · rw [if_pos c9] at h
                refine x_iconst (pc := 38) (v := 0) C (by decide) (d_D_pipesThere 23 rfl) ?_
                refine x_iadd (pc := 39) C (d_D_pipesThere 24 rfl) ?_
                refine x_istore_n (pc := 40) (L2 := [(1, xI (x1 + (0 : Int32))), (5, xR 3 (some (i5))), (2, xR 8 (some (i2))), (3, xI (x3)), (4, xI (x4))]) C (d_D_pipesThere 25 rfl) rfl (by decide) rfl ?_
                refine x_iinc (pc := 41) (v := x4 + 1) (L2 := [(4, xI (x4 + 1)), (1, xI (x1 + (0 : Int32))), (5, xR 3 (some (i5))), (2, xR 8 (some (i2))), (3, xI (x3))]) C (d_D_pipesThere 26 rfl) 4 rfl rfl (by decide) rfl ?_
                refine x_goto (pc := 44) (tgt := 13) C (d_D_pipesThere 27 rfl) (by decide) ?_
                exact x_sub [1, 3, 4, 0] rfl (ih _ _ _ _ _ h)
              · rw [if_neg c9] at h
                refine x_iconst (pc := 34) (v := 1) C (by decide) (d_D_pipesThere 21 rfl) ?_
                refine x_goto (pc := 35) (tgt := 39) C (d_D_pipesThere 22 rfl) (by decide) ?_
                refine x_iadd (pc := 39) C (d_D_pipesThere 24 rfl) ?_
                refine x_istore_n (pc := 40) (L2 := [(1, xI (x1 + (1 : Int32))), (5, xR 3 (some (i5))), (2, xR 8 (some (i2))), (3, xI (x3)), (4, xI (x4))]) C (d_D_pipesThere 25 rfl) rfl (by decide) rfl ?_
                refine x_iinc (pc := 41) (v := x4 + 1) (L2 := [(4, xI (x4 + 1)), (1, xI (x1 + (1 : Int32))), (5, xR 3 (some (i5))), (2, xR 8 (some (i2))), (3, xI (x3))]) C (d_D_pipesThere 26 rfl) 4 rfl rfl (by decide) rfl ?_
                refine x_goto (pc := 44) (tgt := 13) C (d_D_pipesThere 27 rfl) (by decide) ?_
                exact x_sub [1, 3, 4, 0] rfl (ih _ _ _ _ _ h)
        · rw [if_neg b4] at h; cases h
def f_D_pipesThere (x0 : Nat) (st : XS) : Option Int32 :=
  match st.2.2.1 0 x0 2 with
  | none => none
  | some i11 =>
    f_D_pipesThere_13 100 0 (some (i11)) 6 0 st
set_option maxRecDepth 100000 in
set_option maxHeartbeats 4000000 in
theorem m_D_pipesThere (l : Launch) {x0 : Nat} {st : XS} {r : Int32} (h : f_D_pipesThere x0 st = some r) : x_M l M_D_pipesThere rm_D_pipesThere [xR 0 (some (x0))] st (.inl (some (xI r))) st 0 0 := by
  refine x_enter (Nat.le_of_ble_eq_true rfl) ?_
  intro p e s m below meth c D cA g args B C
  have hret := B.2.2.2.2.2.2.2.2.1
  have hmn := B.2.2.2.2.2.2.2.1
  have hex := B.2.2.2.2.2.2.2.2.2.1
  unfold f_D_pipesThere at h
  refine x_iconst (pc := 0) (v := 0) C (by decide) (d_D_pipesThere 0 rfl) ?_
  refine x_istore_n (pc := 1) (L2 := [(1, xI (0)), (0, xR 0 (some (x0)))]) C (d_D_pipesThere 1 rfl) rfl (by decide) rfl ?_
  refine x_aload_n (pc := 2) C (d_D_pipesThere 2 rfl) rfl 1 rfl ?_
  refine x_getR (pc := 3) (t := 8) C fl_D_23 rfl rfl (d_D_pipesThere 3 rfl) ?_
  refine x_astore_n (pc := 6) (L2 := [(2, xR 8 (st.2.2.1 0 x0 2)), (1, xI (0)), (0, xR 0 (some (x0)))]) C (d_D_pipesThere 4 rfl) rfl (by decide) rfl ?_
  refine x_aload_n (pc := 7) C (d_D_pipesThere 5 rfl) rfl 0 rfl ?_
  cases c12 : st.2.2.1 0 x0 2 with
  | none => rw [c12] at h; cases h
  | some i11 =>
    rw [c12] at h
    dsimp only at h
    refine x_alen (pc := 8) (v := 6) C ar_8 rfl (d_D_pipesThere 6 rfl) ?_
    refine x_istore_n (pc := 9) (L2 := [(3, xI (6)), (2, xR 8 (some (i11))), (1, xI (0)), (0, xR 0 (some (x0)))]) C (d_D_pipesThere 7 rfl) rfl (by decide) rfl ?_
    refine x_iconst (pc := 10) (v := 0) C (by decide) (d_D_pipesThere 8 rfl) ?_
    refine x_istore (pc := 11) (L2 := [(4, xI (0)), (3, xI (6)), (2, xR 8 (some (i11))), (1, xI (0)), (0, xR 0 (some (x0)))]) C (d_D_pipesThere 9 rfl) (by decide) rfl ?_
    exact x_sub [3, 2, 1, 0] rfl (v_D_pipesThere_13 C hret hmn hex 100 _ _ _ _ _ h)
def f_D_filesThere_13  : Nat → Int32 → Option Nat → Int32 → Int32 → XS → Option Int32
  | 0, _, _, _, _, _ => none
  | n + 1, x1, x2, x3, x4, st =>
    if x3 ≤ x4 then
      some (x1)
    else
      match x2 with
      | none => none
      | some i2 =>
        if x_in x4 6 then
          match st.2.2.1 9 i2 x4.toNatClampNeg with
          | none => none
          | some i5 =>
            match f_F_isThere i5 st with
            | none => none
            | some v8 =>
              if v8 = 0 then
                f_D_filesThere_13 n (x1 + (0 : Int32)) (some (i2)) x3 (x4 + 1) st
              else
                f_D_filesThere_13 n (x1 + (1 : Int32)) (some (i2)) x3 (x4 + 1) st
        else none
set_option maxRecDepth 100000 in
set_option maxHeartbeats 4000000 in
theorem v_D_filesThere_13 {p : Program} {l : Launch} {e : Env} {s : State} {m : MethodId} {args : Array Value} {below : List Frame} {meth : Method} {c : Code} {D : va_G} {cA : Nat → ClassId} {g0 : Nat → Nat → Nat} {n0 : Nat → Nat} {r : Int32} (C : x_C p e rm_D_filesThere s m args meth c D cA (x_A g0 n0 s.heap.size) M_D_filesThere.2.1 M_D_filesThere.1 M_D_filesThere.2.2.1) (hret : meth.sig.returnType = M_D_filesThere.2.2.2.1) (hmn : meth.name = M_D_filesThere.2.2.2.2.2) (hex : c.exceptionTable.toList.map (fun h => (h.startPc, h.endPc, h.handlerPc, h.catchType)) = M_D_filesThere.2.2.2.2.1)  : ∀ (n : Nat) (x1 : Int32) (x2 : Option Nat) (x3 : Int32) (x4 : Int32) (st : XS), f_D_filesThere_13 n x1 x2 x3 x4 st = some r → x_V p l e rm_D_filesThere s m args below meth c D cA (x_A g0 n0 s.heap.size) M_D_filesThere.2.2.1 g0 n0 (x_MQ D cA g0 n0 below s 0 0 (.inl (some (xI r))) st) 13 [(1, xI (x1)), (2, xR 9 (x2)), (3, xI (x3)), (4, xI (x4))] [] st 0 0 := by
  intro n
  induction n with
  | zero => intro x1 x2 x3 x4 st h; cases h
  | succ n ih =>
    intro x1 x2 x3 x4 st h
    rw [f_D_filesThere_13.eq_def] at h
    dsimp only at h
    refine x_iload (pc := 13) C (d_D_filesThere 10 rfl) 3 rfl ?_
    refine x_iload_n (pc := 15) C (d_D_filesThere 11 rfl) rfl 2 rfl ?_
    refine x_icmp_ge (pc := 16) (tgt := 47) C (d_D_filesThere 12 rfl) (by decide) (fun c1 => ?_) (fun c1 => ?_)
    · rw [if_pos c1] at h
      refine x_iload_n (pc := 47) C (d_D_filesThere 28 rfl) rfl 0 rfl ?_
      cases h
      exact x_iret (pc := 48) C hret rfl (Nat.zero_le _) (Nat.zero_le _) (d_D_filesThere 29 rfl)
    · rw [if_neg c1] at h
      refine x_aload_n (pc := 19) C (d_D_filesThere 13 rfl) rfl 1 rfl ?_
      refine x_iload (pc := 20) C (d_D_filesThere 14 rfl) 3 rfl ?_
      cases c3 : x2 with
      | none => rw [c3] at h; cases h
      | some i2 =>
        rw [c3] at h
        dsimp only at h
        by_cases b4 : x_in x4 6
        · rw [if_pos b4] at h
          refine x_aald (pc := 22) C ar_9 b4 (d_D_filesThere 15 rfl) ?_
          refine x_astore (pc := 23) (L2 := [(5, xR 4 (st.2.2.1 9 i2 x4.toNatClampNeg)), (1, xI (x1)), (2, xR 9 (some (i2))), (3, xI (x3)), (4, xI (x4))]) C (d_D_filesThere 16 rfl) (by decide) rfl ?_
          refine x_iload_n (pc := 25) C (d_D_filesThere 17 rfl) rfl 1 rfl ?_
          refine x_aload (pc := 26) C (d_D_filesThere 18 rfl) 0 rfl ?_
          cases c6 : st.2.2.1 9 i2 x4.toNatClampNeg with
          | none => rw [c6] at h; cases h
          | some i5 =>
            rw [c6] at h
            dsimp only at h
            cases c7 : f_F_isThere i5 st with
            | none => rw [c7] at h; cases h
            | some v8 =>
              rw [c7] at h
              dsimp only at h
              refine x_callV (mc := 0) (ms := 0) (pc := 28) (bL := []) (K := [xI (x1)]) C cs_D_241 (m_F_isThere l c7 : x_M l _ _ _ _ (.inl (some (xI v8))) _ 0 0) (by decide) rfl (Nat.le_of_ble_eq_true rfl) (d_D_filesThere 19 rfl) ?_
              refine x_if_eq (pc := 31) (tgt := 38) C (d_D_filesThere 20 rfl) (by decide) (fun c9 => ?_) (fun c9 => ?_)
              · rw [if_pos c9] at h
                refine x_iconst (pc := 38) (v := 0) C (by decide) (d_D_filesThere 23 rfl) ?_
                refine x_iadd (pc := 39) C (d_D_filesThere 24 rfl) ?_
                refine x_istore_n (pc := 40) (L2 := [(1, xI (x1 + (0 : Int32))), (5, xR 4 (some (i5))), (2, xR 9 (some (i2))), (3, xI (x3)), (4, xI (x4))]) C (d_D_filesThere 25 rfl) rfl (by decide) rfl ?_
                refine x_iinc (pc := 41) (v := x4 + 1) (L2 := [(4, xI (x4 + 1)), (1, xI (x1 + (0 : Int32))), (5, xR 4 (some (i5))), (2, xR 9 (some (i2))), (3, xI (x3))]) C (d_D_filesThere 26 rfl) 4 rfl rfl (by decide) rfl ?_
                refine x_goto (pc := 44) (tgt := 13) C (d_D_filesThere 27 rfl) (by decide) ?_
                exact x_sub [1, 3, 4, 0] rfl (ih _ _ _ _ _ h)
              · rw [if_neg c9] at h
                refine x_iconst (pc := 34) (v := 1) C (by decide) (d_D_filesThere 21 rfl) ?_
                refine x_goto (pc := 35) (tgt := 39) C (d_D_filesThere 22 rfl) (by decide) ?_
                refine x_iadd (pc := 39) C (d_D_filesThere 24 rfl) ?_
                refine x_istore_n (pc := 40) (L2 := [(1, xI (x1 + (1 : Int32))), (5, xR 4 (some (i5))), (2, xR 9 (some (i2))), (3, xI (x3)), (4, xI (x4))]) C (d_D_filesThere 25 rfl) rfl (by decide) rfl ?_
                refine x_iinc (pc := 41) (v := x4 + 1) (L2 := [(4, xI (x4 + 1)), (1, xI (x1 + (1 : Int32))), (5, xR 4 (some (i5))), (2, xR 9 (some (i2))), (3, xI (x3))]) C (d_D_filesThere 26 rfl) 4 rfl rfl (by decide) rfl ?_
                refine x_goto (pc := 44) (tgt := 13) C (d_D_filesThere 27 rfl) (by decide) ?_
                exact x_sub [1, 3, 4, 0] rfl (ih _ _ _ _ _ h)
        · rw [if_neg b4] at h; cases h
def f_D_filesThere (x0 : Nat) (st : XS) : Option Int32 :=
  match st.2.2.1 0 x0 3 with
  | none => none
  | some i11 =>
    f_D_filesThere_13 100 0 (some (i11)) 6 0 st
set_option maxRecDepth 100000 in
set_option maxHeartbeats 4000000 in
theorem m_D_filesThere (l : Launch) {x0 : Nat} {st : XS} {r : Int32} (h : f_D_filesThere x0 st = some r) : x_M l M_D_filesThere rm_D_filesThere [xR 0 (some (x0))] st (.inl (some (xI r))) st 0 0 := by
  refine x_enter (Nat.le_of_ble_eq_true rfl) ?_
  intro p e s m below meth c D cA g args B C
  have hret := B.2.2.2.2.2.2.2.2.1
  have hmn := B.2.2.2.2.2.2.2.1
  have hex := B.2.2.2.2.2.2.2.2.2.1
  unfold f_D_filesThere at h
  refine x_iconst (pc := 0) (v := 0) C (by decide) (d_D_filesThere 0 rfl) ?_
  refine x_istore_n (pc := 1) (L2 := [(1, xI (0)), (0, xR 0 (some (x0)))]) C (d_D_filesThere 1 rfl) rfl (by decide) rfl ?_
  refine x_aload_n (pc := 2) C (d_D_filesThere 2 rfl) rfl 1 rfl ?_
  refine x_getR (pc := 3) (t := 9) C fl_D_29 rfl rfl (d_D_filesThere 3 rfl) ?_
  refine x_astore_n (pc := 6) (L2 := [(2, xR 9 (st.2.2.1 0 x0 3)), (1, xI (0)), (0, xR 0 (some (x0)))]) C (d_D_filesThere 4 rfl) rfl (by decide) rfl ?_
  refine x_aload_n (pc := 7) C (d_D_filesThere 5 rfl) rfl 0 rfl ?_
  cases c12 : st.2.2.1 0 x0 3 with
  | none => rw [c12] at h; cases h
  | some i11 =>
    rw [c12] at h
    dsimp only at h
    refine x_alen (pc := 8) (v := 6) C ar_9 rfl (d_D_filesThere 6 rfl) ?_
    refine x_istore_n (pc := 9) (L2 := [(3, xI (6)), (2, xR 9 (some (i11))), (1, xI (0)), (0, xR 0 (some (x0)))]) C (d_D_filesThere 7 rfl) rfl (by decide) rfl ?_
    refine x_iconst (pc := 10) (v := 0) C (by decide) (d_D_filesThere 8 rfl) ?_
    refine x_istore (pc := 11) (L2 := [(4, xI (0)), (3, xI (6)), (2, xR 9 (some (i11))), (1, xI (0)), (0, xR 0 (some (x0)))]) C (d_D_filesThere 9 rfl) (by decide) rfl ?_
    exact x_sub [3, 2, 1, 0] rfl (v_D_filesThere_13 C hret hmn hex 100 _ _ _ _ _ h)
def f_D_filesWithNames_13  : Nat → Int32 → Option Nat → Int32 → Int32 → XS → Option Int32
  | 0, _, _, _, _, _ => none
  | n + 1, x1, x2, x3, x4, st =>
    if x3 ≤ x4 then
      some (x1)
    else
      match x2 with
      | none => none
      | some i2 =>
        if x_in x4 6 then
          match st.2.2.1 9 i2 x4.toNatClampNeg with
          | none => none
          | some i5 =>
            if (st.1 4 i5 2) = 0 then
              f_D_filesWithNames_13 n (x1 + (0 : Int32)) (some (i2)) x3 (x4 + 1) st
            else
              f_D_filesWithNames_13 n (x1 + (1 : Int32)) (some (i2)) x3 (x4 + 1) st
        else none
set_option maxRecDepth 100000 in
set_option maxHeartbeats 4000000 in
theorem v_D_filesWithNames_13 {p : Program} {l : Launch} {e : Env} {s : State} {m : MethodId} {args : Array Value} {below : List Frame} {meth : Method} {c : Code} {D : va_G} {cA : Nat → ClassId} {g0 : Nat → Nat → Nat} {n0 : Nat → Nat} {r : Int32} (C : x_C p e rm_D_filesWithNames s m args meth c D cA (x_A g0 n0 s.heap.size) M_D_filesWithNames.2.1 M_D_filesWithNames.1 M_D_filesWithNames.2.2.1) (hret : meth.sig.returnType = M_D_filesWithNames.2.2.2.1) (hmn : meth.name = M_D_filesWithNames.2.2.2.2.2) (hex : c.exceptionTable.toList.map (fun h => (h.startPc, h.endPc, h.handlerPc, h.catchType)) = M_D_filesWithNames.2.2.2.2.1)  : ∀ (n : Nat) (x1 : Int32) (x2 : Option Nat) (x3 : Int32) (x4 : Int32) (st : XS), f_D_filesWithNames_13 n x1 x2 x3 x4 st = some r → x_V p l e rm_D_filesWithNames s m args below meth c D cA (x_A g0 n0 s.heap.size) M_D_filesWithNames.2.2.1 g0 n0 (x_MQ D cA g0 n0 below s 0 0 (.inl (some (xI r))) st) 13 [(1, xI (x1)), (2, xR 9 (x2)), (3, xI (x3)), (4, xI (x4))] [] st 0 0 := by
  intro n
  induction n with
  | zero => intro x1 x2 x3 x4 st h; cases h
  | succ n ih =>
    intro x1 x2 x3 x4 st h
    rw [f_D_filesWithNames_13.eq_def] at h
    dsimp only at h
    refine x_iload (pc := 13) C (d_D_filesWithNames 10 rfl) 3 rfl ?_
    refine x_iload_n (pc := 15) C (d_D_filesWithNames 11 rfl) rfl 2 rfl ?_
    refine x_icmp_ge (pc := 16) (tgt := 47) C (d_D_filesWithNames 12 rfl) (by decide) (fun c1 => ?_) (fun c1 => ?_)
    · rw [if_pos c1] at h
      refine x_iload_n (pc := 47) C (d_D_filesWithNames 28 rfl) rfl 0 rfl ?_
      cases h
      exact x_iret (pc := 48) C hret rfl (Nat.zero_le _) (Nat.zero_le _) (d_D_filesWithNames 29 rfl)
    · rw [if_neg c1] at h
      refine x_aload_n (pc := 19) C (d_D_filesWithNames 13 rfl) rfl 1 rfl ?_
      refine x_iload (pc := 20) C (d_D_filesWithNames 14 rfl) 3 rfl ?_
      cases c3 : x2 with
      | none => rw [c3] at h; cases h
      | some i2 =>
        rw [c3] at h
        dsimp only at h
        by_cases b4 : x_in x4 6
        · rw [if_pos b4] at h
          refine x_aald (pc := 22) C ar_9 b4 (d_D_filesWithNames 15 rfl) ?_
          refine x_astore (pc := 23) (L2 := [(5, xR 4 (st.2.2.1 9 i2 x4.toNatClampNeg)), (1, xI (x1)), (2, xR 9 (some (i2))), (3, xI (x3)), (4, xI (x4))]) C (d_D_filesWithNames 16 rfl) (by decide) rfl ?_
          refine x_iload_n (pc := 25) C (d_D_filesWithNames 17 rfl) rfl 1 rfl ?_
          refine x_aload (pc := 26) C (d_D_filesWithNames 18 rfl) 0 rfl ?_
          cases c6 : st.2.2.1 9 i2 x4.toNatClampNeg with
          | none => rw [c6] at h; cases h
          | some i5 =>
            rw [c6] at h
            dsimp only at h
            refine x_getI (pc := 28) C fl_D_112 rfl (d_D_filesWithNames 19 rfl) ?_
            refine x_if_eq (pc := 31) (tgt := 38) C (d_D_filesWithNames 20 rfl) (by decide) (fun c7 => ?_) (fun c7 => ?_)
            · rw [if_pos c7] at h
              refine x_iconst (pc := 38) (v := 0) C (by decide) (d_D_filesWithNames 23 rfl) ?_
              refine x_iadd (pc := 39) C (d_D_filesWithNames 24 rfl) ?_
              refine x_istore_n (pc := 40) (L2 := [(1, xI (x1 + (0 : Int32))), (5, xR 4 (some (i5))), (2, xR 9 (some (i2))), (3, xI (x3)), (4, xI (x4))]) C (d_D_filesWithNames 25 rfl) rfl (by decide) rfl ?_
              refine x_iinc (pc := 41) (v := x4 + 1) (L2 := [(4, xI (x4 + 1)), (1, xI (x1 + (0 : Int32))), (5, xR 4 (some (i5))), (2, xR 9 (some (i2))), (3, xI (x3))]) C (d_D_filesWithNames 26 rfl) 4 rfl rfl (by decide) rfl ?_
              refine x_goto (pc := 44) (tgt := 13) C (d_D_filesWithNames 27 rfl) (by decide) ?_
              exact x_sub [1, 3, 4, 0] rfl (ih _ _ _ _ _ h)
            · rw [if_neg c7] at h
              refine x_iconst (pc := 34) (v := 1) C (by decide) (d_D_filesWithNames 21 rfl) ?_
              refine x_goto (pc := 35) (tgt := 39) C (d_D_filesWithNames 22 rfl) (by decide) ?_
              refine x_iadd (pc := 39) C (d_D_filesWithNames 24 rfl) ?_
              refine x_istore_n (pc := 40) (L2 := [(1, xI (x1 + (1 : Int32))), (5, xR 4 (some (i5))), (2, xR 9 (some (i2))), (3, xI (x3)), (4, xI (x4))]) C (d_D_filesWithNames 25 rfl) rfl (by decide) rfl ?_
              refine x_iinc (pc := 41) (v := x4 + 1) (L2 := [(4, xI (x4 + 1)), (1, xI (x1 + (1 : Int32))), (5, xR 4 (some (i5))), (2, xR 9 (some (i2))), (3, xI (x3))]) C (d_D_filesWithNames 26 rfl) 4 rfl rfl (by decide) rfl ?_
              refine x_goto (pc := 44) (tgt := 13) C (d_D_filesWithNames 27 rfl) (by decide) ?_
              exact x_sub [1, 3, 4, 0] rfl (ih _ _ _ _ _ h)
        · rw [if_neg b4] at h; cases h
def f_D_filesWithNames (x0 : Nat) (st : XS) : Option Int32 :=
  match st.2.2.1 0 x0 3 with
  | none => none
  | some i8 =>
    f_D_filesWithNames_13 100 0 (some (i8)) 6 0 st
set_option maxRecDepth 100000 in
set_option maxHeartbeats 4000000 in
theorem m_D_filesWithNames (l : Launch) {x0 : Nat} {st : XS} {r : Int32} (h : f_D_filesWithNames x0 st = some r) : x_M l M_D_filesWithNames rm_D_filesWithNames [xR 0 (some (x0))] st (.inl (some (xI r))) st 0 0 := by
  refine x_enter (Nat.le_of_ble_eq_true rfl) ?_
  intro p e s m below meth c D cA g args B C
  have hret := B.2.2.2.2.2.2.2.2.1
  have hmn := B.2.2.2.2.2.2.2.1
  have hex := B.2.2.2.2.2.2.2.2.2.1
  unfold f_D_filesWithNames at h
  refine x_iconst (pc := 0) (v := 0) C (by decide) (d_D_filesWithNames 0 rfl) ?_
  refine x_istore_n (pc := 1) (L2 := [(1, xI (0)), (0, xR 0 (some (x0)))]) C (d_D_filesWithNames 1 rfl) rfl (by decide) rfl ?_
  refine x_aload_n (pc := 2) C (d_D_filesWithNames 2 rfl) rfl 1 rfl ?_
  refine x_getR (pc := 3) (t := 9) C fl_D_29 rfl rfl (d_D_filesWithNames 3 rfl) ?_
  refine x_astore_n (pc := 6) (L2 := [(2, xR 9 (st.2.2.1 0 x0 3)), (1, xI (0)), (0, xR 0 (some (x0)))]) C (d_D_filesWithNames 4 rfl) rfl (by decide) rfl ?_
  refine x_aload_n (pc := 7) C (d_D_filesWithNames 5 rfl) rfl 0 rfl ?_
  cases c9 : st.2.2.1 0 x0 3 with
  | none => rw [c9] at h; cases h
  | some i8 =>
    rw [c9] at h
    dsimp only at h
    refine x_alen (pc := 8) (v := 6) C ar_9 rfl (d_D_filesWithNames 6 rfl) ?_
    refine x_istore_n (pc := 9) (L2 := [(3, xI (6)), (2, xR 9 (some (i8))), (1, xI (0)), (0, xR 0 (some (x0)))]) C (d_D_filesWithNames 7 rfl) rfl (by decide) rfl ?_
    refine x_iconst (pc := 10) (v := 0) C (by decide) (d_D_filesWithNames 8 rfl) ?_
    refine x_istore (pc := 11) (L2 := [(4, xI (0)), (3, xI (6)), (2, xR 9 (some (i8))), (1, xI (0)), (0, xR 0 (some (x0)))]) C (d_D_filesWithNames 9 rfl) (by decide) rfl ?_
    exact x_sub [3, 2, 1, 0] rfl (v_D_filesWithNames_13 C hret hmn hex 100 _ _ _ _ _ h)
def f_D_bytesInPipes_13  : Nat → Int32 → Option Nat → Int32 → Int32 → XS → Option Int32
  | 0, _, _, _, _, _ => none
  | n + 1, x1, x2, x3, x4, st =>
    if x3 ≤ x4 then
      some (x1)
    else
      match x2 with
      | none => none
      | some i2 =>
        if x_in x4 6 then
          match st.2.2.1 8 i2 x4.toNatClampNeg with
          | none => none
          | some i5 =>
            match st.2.2.1 3 i5 0 with
            | none => none
            | some i7 =>
              f_D_bytesInPipes_13 n (x1 + (st.1 5 i7 2)) (some (i2)) x3 (x4 + 1) st
        else none
set_option maxRecDepth 100000 in
set_option maxHeartbeats 4000000 in
theorem v_D_bytesInPipes_13 {p : Program} {l : Launch} {e : Env} {s : State} {m : MethodId} {args : Array Value} {below : List Frame} {meth : Method} {c : Code} {D : va_G} {cA : Nat → ClassId} {g0 : Nat → Nat → Nat} {n0 : Nat → Nat} {r : Int32} (C : x_C p e rm_D_bytesInPipes s m args meth c D cA (x_A g0 n0 s.heap.size) M_D_bytesInPipes.2.1 M_D_bytesInPipes.1 M_D_bytesInPipes.2.2.1) (hret : meth.sig.returnType = M_D_bytesInPipes.2.2.2.1) (hmn : meth.name = M_D_bytesInPipes.2.2.2.2.2) (hex : c.exceptionTable.toList.map (fun h => (h.startPc, h.endPc, h.handlerPc, h.catchType)) = M_D_bytesInPipes.2.2.2.2.1)  : ∀ (n : Nat) (x1 : Int32) (x2 : Option Nat) (x3 : Int32) (x4 : Int32) (st : XS), f_D_bytesInPipes_13 n x1 x2 x3 x4 st = some r → x_V p l e rm_D_bytesInPipes s m args below meth c D cA (x_A g0 n0 s.heap.size) M_D_bytesInPipes.2.2.1 g0 n0 (x_MQ D cA g0 n0 below s 0 0 (.inl (some (xI r))) st) 13 [(1, xI (x1)), (2, xR 8 (x2)), (3, xI (x3)), (4, xI (x4))] [] st 0 0 := by
  intro n
  induction n with
  | zero => intro x1 x2 x3 x4 st h; cases h
  | succ n ih =>
    intro x1 x2 x3 x4 st h
    rw [f_D_bytesInPipes_13.eq_def] at h
    dsimp only at h
    refine x_iload (pc := 13) C (d_D_bytesInPipes 10 rfl) 3 rfl ?_
    refine x_iload_n (pc := 15) C (d_D_bytesInPipes 11 rfl) rfl 2 rfl ?_
    refine x_icmp_ge (pc := 16) (tgt := 42) C (d_D_bytesInPipes 12 rfl) (by decide) (fun c1 => ?_) (fun c1 => ?_)
    · rw [if_pos c1] at h
      refine x_iload_n (pc := 42) C (d_D_bytesInPipes 25 rfl) rfl 0 rfl ?_
      cases h
      exact x_iret (pc := 43) C hret rfl (Nat.zero_le _) (Nat.zero_le _) (d_D_bytesInPipes 26 rfl)
    · rw [if_neg c1] at h
      refine x_aload_n (pc := 19) C (d_D_bytesInPipes 13 rfl) rfl 1 rfl ?_
      refine x_iload (pc := 20) C (d_D_bytesInPipes 14 rfl) 3 rfl ?_
      cases c3 : x2 with
      | none => rw [c3] at h; cases h
      | some i2 =>
        rw [c3] at h
        dsimp only at h
        by_cases b4 : x_in x4 6
        · rw [if_pos b4] at h
          refine x_aald (pc := 22) C ar_8 b4 (d_D_bytesInPipes 15 rfl) ?_
          refine x_astore (pc := 23) (L2 := [(5, xR 3 (st.2.2.1 8 i2 x4.toNatClampNeg)), (1, xI (x1)), (2, xR 8 (some (i2))), (3, xI (x3)), (4, xI (x4))]) C (d_D_bytesInPipes 16 rfl) (by decide) rfl ?_
          refine x_iload_n (pc := 25) C (d_D_bytesInPipes 17 rfl) rfl 1 rfl ?_
          refine x_aload (pc := 26) C (d_D_bytesInPipes 18 rfl) 0 rfl ?_
          cases c6 : st.2.2.1 8 i2 x4.toNatClampNeg with
          | none => rw [c6] at h; cases h
          | some i5 =>
            rw [c6] at h
            dsimp only at h
            refine x_getR (pc := 28) (t := 5) C fl_D_250 rfl rfl (d_D_bytesInPipes 19 rfl) ?_
            cases c8 : st.2.2.1 3 i5 0 with
            | none => rw [c8] at h; cases h
            | some i7 =>
              rw [c8] at h
              dsimp only at h
              refine x_getI (pc := 31) C fl_D_169 rfl (d_D_bytesInPipes 20 rfl) ?_
              refine x_iadd (pc := 34) C (d_D_bytesInPipes 21 rfl) ?_
              refine x_istore_n (pc := 35) (L2 := [(1, xI (x1 + (st.1 5 i7 2))), (5, xR 3 (some (i5))), (2, xR 8 (some (i2))), (3, xI (x3)), (4, xI (x4))]) C (d_D_bytesInPipes 22 rfl) rfl (by decide) rfl ?_
              refine x_iinc (pc := 36) (v := x4 + 1) (L2 := [(4, xI (x4 + 1)), (1, xI (x1 + (st.1 5 i7 2))), (5, xR 3 (some (i5))), (2, xR 8 (some (i2))), (3, xI (x3))]) C (d_D_bytesInPipes 23 rfl) 4 rfl rfl (by decide) rfl ?_
              refine x_goto (pc := 39) (tgt := 13) C (d_D_bytesInPipes 24 rfl) (by decide) ?_
              exact x_sub [1, 3, 4, 0] rfl (ih _ _ _ _ _ h)
        · rw [if_neg b4] at h; cases h
def f_D_bytesInPipes (x0 : Nat) (st : XS) : Option Int32 :=
  match st.2.2.1 0 x0 2 with
  | none => none
  | some i9 =>
    f_D_bytesInPipes_13 100 0 (some (i9)) 6 0 st
set_option maxRecDepth 100000 in
set_option maxHeartbeats 4000000 in
theorem m_D_bytesInPipes (l : Launch) {x0 : Nat} {st : XS} {r : Int32} (h : f_D_bytesInPipes x0 st = some r) : x_M l M_D_bytesInPipes rm_D_bytesInPipes [xR 0 (some (x0))] st (.inl (some (xI r))) st 0 0 := by
  refine x_enter (Nat.le_of_ble_eq_true rfl) ?_
  intro p e s m below meth c D cA g args B C
  have hret := B.2.2.2.2.2.2.2.2.1
  have hmn := B.2.2.2.2.2.2.2.1
  have hex := B.2.2.2.2.2.2.2.2.2.1
  unfold f_D_bytesInPipes at h
  refine x_iconst (pc := 0) (v := 0) C (by decide) (d_D_bytesInPipes 0 rfl) ?_
  refine x_istore_n (pc := 1) (L2 := [(1, xI (0)), (0, xR 0 (some (x0)))]) C (d_D_bytesInPipes 1 rfl) rfl (by decide) rfl ?_
  refine x_aload_n (pc := 2) C (d_D_bytesInPipes 2 rfl) rfl 1 rfl ?_
  refine x_getR (pc := 3) (t := 8) C fl_D_23 rfl rfl (d_D_bytesInPipes 3 rfl) ?_
  refine x_astore_n (pc := 6) (L2 := [(2, xR 8 (st.2.2.1 0 x0 2)), (1, xI (0)), (0, xR 0 (some (x0)))]) C (d_D_bytesInPipes 4 rfl) rfl (by decide) rfl ?_
  refine x_aload_n (pc := 7) C (d_D_bytesInPipes 5 rfl) rfl 0 rfl ?_
  cases c10 : st.2.2.1 0 x0 2 with
  | none => rw [c10] at h; cases h
  | some i9 =>
    rw [c10] at h
    dsimp only at h
    refine x_alen (pc := 8) (v := 6) C ar_8 rfl (d_D_bytesInPipes 6 rfl) ?_
    refine x_istore_n (pc := 9) (L2 := [(3, xI (6)), (2, xR 8 (some (i9))), (1, xI (0)), (0, xR 0 (some (x0)))]) C (d_D_bytesInPipes 7 rfl) rfl (by decide) rfl ?_
    refine x_iconst (pc := 10) (v := 0) C (by decide) (d_D_bytesInPipes 8 rfl) ?_
    refine x_istore (pc := 11) (L2 := [(4, xI (0)), (3, xI (6)), (2, xR 8 (some (i9))), (1, xI (0)), (0, xR 0 (some (x0)))]) C (d_D_bytesInPipes 9 rfl) (by decide) rfl ?_
    exact x_sub [3, 2, 1, 0] rfl (v_D_bytesInPipes_13 C hret hmn hex 100 _ _ _ _ _ h)
def f_D_holdersOfEnd_5  : Nat → Nat → Option Nat → Int32 → Int32 → Int32 → XS → Option Int32
  | 0, _, _, _, _, _, _ => none
  | n + 1, x0, x1, x2, x3, x4, st =>
    if 8 ≤ x4 then
      some (x3)
    else
      match st.2.2.1 0 x0 0 with
      | none => none
      | some i2 =>
        if x_in x4 8 then
          match st.2.2.1 6 i2 x4.toNatClampNeg with
          | none => none
          | some i5 =>
            match f_P_holdsEnd i5 (x1) x2 st with
            | none => none
            | some v8 =>
              if v8 = 0 then
                f_D_holdersOfEnd_5 n x0 (x1) x2 x3 (x4 + 1) st
              else
                f_D_holdersOfEnd_5 n x0 (x1) x2 (x3 ||| ((1 : Int32) <<< (x4 &&& 31))) (x4 + 1) st
        else none
set_option maxRecDepth 100000 in
set_option maxHeartbeats 4000000 in
theorem v_D_holdersOfEnd_5 {p : Program} {l : Launch} {e : Env} {s : State} {m : MethodId} {args : Array Value} {below : List Frame} {meth : Method} {c : Code} {D : va_G} {cA : Nat → ClassId} {g0 : Nat → Nat → Nat} {n0 : Nat → Nat} {r : Int32} (C : x_C p e rm_D_holdersOfEnd s m args meth c D cA (x_A g0 n0 s.heap.size) M_D_holdersOfEnd.2.1 M_D_holdersOfEnd.1 M_D_holdersOfEnd.2.2.1) (hret : meth.sig.returnType = M_D_holdersOfEnd.2.2.2.1) (hmn : meth.name = M_D_holdersOfEnd.2.2.2.2.2) (hex : c.exceptionTable.toList.map (fun h => (h.startPc, h.endPc, h.handlerPc, h.catchType)) = M_D_holdersOfEnd.2.2.2.2.1)  : ∀ (n : Nat) (x0 : Nat) (x1 : Option Nat) (x2 : Int32) (x3 : Int32) (x4 : Int32) (st : XS), f_D_holdersOfEnd_5 n x0 x1 x2 x3 x4 st = some r → x_V p l e rm_D_holdersOfEnd s m args below meth c D cA (x_A g0 n0 s.heap.size) M_D_holdersOfEnd.2.2.1 g0 n0 (x_MQ D cA g0 n0 below s 0 0 (.inl (some (xI r))) st) 5 [(0, xR 0 (some (x0))), (1, xR 3 (x1)), (2, xI (x2)), (3, xI (x3)), (4, xI (x4))] [] st 0 0 := by
  intro n
  induction n with
  | zero => intro x0 x1 x2 x3 x4 st h; cases h
  | succ n ih =>
    intro x0 x1 x2 x3 x4 st h
    rw [f_D_holdersOfEnd_5.eq_def] at h
    dsimp only at h
    refine x_iload (pc := 5) C (d_D_holdersOfEnd 4 rfl) 4 rfl ?_
    refine x_bipush (pc := 7) (v := 8) C (by decide) (d_D_holdersOfEnd 5 rfl) ?_
    refine x_icmp_ge (pc := 9) (tgt := 40) C (d_D_holdersOfEnd 6 rfl) (by decide) (fun c1 => ?_) (fun c1 => ?_)
    · rw [if_pos c1] at h
      refine x_iload_n (pc := 40) C (d_D_holdersOfEnd 23 rfl) rfl 3 rfl ?_
      cases h
      exact x_iret (pc := 41) C hret rfl (Nat.zero_le _) (Nat.zero_le _) (d_D_holdersOfEnd 24 rfl)
    · rw [if_neg c1] at h
      refine x_aload_n (pc := 12) C (d_D_holdersOfEnd 7 rfl) rfl 0 rfl ?_
      refine x_getR (pc := 13) (t := 6) C fl_D_11 rfl rfl (d_D_holdersOfEnd 8 rfl) ?_
      refine x_iload (pc := 16) C (d_D_holdersOfEnd 9 rfl) 4 rfl ?_
      cases c3 : st.2.2.1 0 x0 0 with
      | none => rw [c3] at h; cases h
      | some i2 =>
        rw [c3] at h
        dsimp only at h
        by_cases b4 : x_in x4 8
        · rw [if_pos b4] at h
          refine x_aald (pc := 18) C ar_6 b4 (d_D_holdersOfEnd 10 rfl) ?_
          refine x_aload_n (pc := 19) C (d_D_holdersOfEnd 11 rfl) rfl 1 rfl ?_
          refine x_iload_n (pc := 20) C (d_D_holdersOfEnd 12 rfl) rfl 2 rfl ?_
          cases c6 : st.2.2.1 6 i2 x4.toNatClampNeg with
          | none => rw [c6] at h; cases h
          | some i5 =>
            rw [c6] at h
            dsimp only at h
            cases c7 : f_P_holdsEnd i5 (x1) x2 st with
            | none => rw [c7] at h; cases h
            | some v8 =>
              rw [c7] at h
              dsimp only at h
              refine x_callV (mc := 0) (ms := 0) (pc := 21) (bL := [xR 3 (x1), xI (x2)]) (K := []) C cs_D_322 (m_P_holdsEnd l c7 : x_M l _ _ _ _ (.inl (some (xI v8))) _ 0 0) (by decide) rfl (Nat.le_of_ble_eq_true rfl) (d_D_holdersOfEnd 13 rfl) ?_
              refine x_if_eq (pc := 24) (tgt := 34) C (d_D_holdersOfEnd 14 rfl) (by decide) (fun c9 => ?_) (fun c9 => ?_)
              · rw [if_pos c9] at h
                refine x_iinc (pc := 34) (v := x4 + 1) (L2 := [(4, xI (x4 + 1)), (0, xR 0 (some (x0))), (1, xR 3 (x1)), (2, xI (x2)), (3, xI (x3))]) C (d_D_holdersOfEnd 21 rfl) 4 rfl rfl (by decide) rfl ?_
                refine x_goto (pc := 37) (tgt := 5) C (d_D_holdersOfEnd 22 rfl) (by decide) ?_
                exact x_sub [1, 2, 3, 4, 0] rfl (ih _ _ _ _ _ _ h)
              · rw [if_neg c9] at h
                refine x_iload_n (pc := 27) C (d_D_holdersOfEnd 15 rfl) rfl 3 rfl ?_
                refine x_iconst (pc := 28) (v := 1) C (by decide) (d_D_holdersOfEnd 16 rfl) ?_
                refine x_iload (pc := 29) C (d_D_holdersOfEnd 17 rfl) 4 rfl ?_
                refine x_ishl (pc := 31) C (d_D_holdersOfEnd 18 rfl) ?_
                refine x_ior (pc := 32) C (d_D_holdersOfEnd 19 rfl) ?_
                refine x_istore_n (pc := 33) (L2 := [(3, xI (x3 ||| ((1 : Int32) <<< (x4 &&& 31)))), (0, xR 0 (some (x0))), (1, xR 3 (x1)), (2, xI (x2)), (4, xI (x4))]) C (d_D_holdersOfEnd 20 rfl) rfl (by decide) rfl ?_
                refine x_iinc (pc := 34) (v := x4 + 1) (L2 := [(4, xI (x4 + 1)), (3, xI (x3 ||| ((1 : Int32) <<< (x4 &&& 31)))), (0, xR 0 (some (x0))), (1, xR 3 (x1)), (2, xI (x2))]) C (d_D_holdersOfEnd 21 rfl) 4 rfl rfl (by decide) rfl ?_
                refine x_goto (pc := 37) (tgt := 5) C (d_D_holdersOfEnd 22 rfl) (by decide) ?_
                exact x_sub [2, 3, 4, 1, 0] rfl (ih _ _ _ _ _ _ h)
        · rw [if_neg b4] at h; cases h
def f_D_holdersOfEnd (x0 : Nat) (x1 : Option Nat) (x2 : Int32) (st : XS) : Option Int32 :=
  f_D_holdersOfEnd_5 100 x0 (x1) x2 0 0 st
set_option maxRecDepth 100000 in
set_option maxHeartbeats 4000000 in
theorem m_D_holdersOfEnd (l : Launch) {x0 : Nat} {x1 : Option Nat} {x2 : Int32} {st : XS} {r : Int32} (h : f_D_holdersOfEnd x0 x1 x2 st = some r) : x_M l M_D_holdersOfEnd rm_D_holdersOfEnd [xR 0 (some (x0)), xR 3 (x1), xI (x2)] st (.inl (some (xI r))) st 0 0 := by
  refine x_enter (Nat.le_of_ble_eq_true rfl) ?_
  intro p e s m below meth c D cA g args B C
  have hret := B.2.2.2.2.2.2.2.2.1
  have hmn := B.2.2.2.2.2.2.2.1
  have hex := B.2.2.2.2.2.2.2.2.2.1
  unfold f_D_holdersOfEnd at h
  refine x_iconst (pc := 0) (v := 0) C (by decide) (d_D_holdersOfEnd 0 rfl) ?_
  refine x_istore_n (pc := 1) (L2 := [(3, xI (0)), (0, xR 0 (some (x0))), (1, xR 3 (x1)), (2, xI (x2))]) C (d_D_holdersOfEnd 1 rfl) rfl (by decide) rfl ?_
  refine x_iconst (pc := 2) (v := 0) C (by decide) (d_D_holdersOfEnd 2 rfl) ?_
  refine x_istore (pc := 3) (L2 := [(4, xI (0)), (3, xI (0)), (0, xR 0 (some (x0))), (1, xR 3 (x1)), (2, xI (x2))]) C (d_D_holdersOfEnd 3 rfl) (by decide) rfl ?_
  exact x_sub [2, 3, 4, 1, 0] rfl (v_D_holdersOfEnd_5 C hret hmn hex 100 _ _ _ _ _ _ h)
def f_D_waitsForNoneBut_46  (x0 : Nat) (x2 : Int32) (x3 : Option Nat) (s0 : Int32) (st : XS) : Option Int32 :=
  match x3 with
  | none => none
  | some i1 =>
    match f_D_holdersOfEnd x0 (st.2.2.1 2 i1 0) s0 st with
    | none => none
    | some v4 =>
      if (v4 &&& (x2 ^^^ ((-1) : Int32))) = 0 then
        some (1)
      else
        some (0)
set_option maxRecDepth 100000 in
set_option maxHeartbeats 4000000 in
theorem v_D_waitsForNoneBut_46 {p : Program} {l : Launch} {e : Env} {s : State} {m : MethodId} {args : Array Value} {below : List Frame} {meth : Method} {c : Code} {D : va_G} {cA : Nat → ClassId} {g0 : Nat → Nat → Nat} {n0 : Nat → Nat} {r : Int32} (C : x_C p e rm_D_waitsForNoneBut s m args meth c D cA (x_A g0 n0 s.heap.size) M_D_waitsForNoneBut.2.1 M_D_waitsForNoneBut.1 M_D_waitsForNoneBut.2.2.1) (hret : meth.sig.returnType = M_D_waitsForNoneBut.2.2.2.1) (hmn : meth.name = M_D_waitsForNoneBut.2.2.2.2.2) (hex : c.exceptionTable.toList.map (fun h => (h.startPc, h.endPc, h.handlerPc, h.catchType)) = M_D_waitsForNoneBut.2.2.2.2.1)  (x0 : Nat) (x2 : Int32) (x3 : Option Nat) (s0 : Int32) (st : XS) (h : f_D_waitsForNoneBut_46 x0 x2 x3 s0 st = some r) : x_V p l e rm_D_waitsForNoneBut s m args below meth c D cA (x_A g0 n0 s.heap.size) M_D_waitsForNoneBut.2.2.1 g0 n0 (x_MQ D cA g0 n0 below s 0 0 (.inl (some (xI r))) st) 46 [(0, xR 0 (some (x0))), (2, xI (x2)), (3, xR 2 (x3))] [xI (s0)] st 0 0 := by
  unfold f_D_waitsForNoneBut_46 at h
  refine x_istore (pc := 46) (L2 := [(4, xI (s0)), (0, xR 0 (some (x0))), (2, xI (x2)), (3, xR 2 (x3))]) C (d_D_waitsForNoneBut 24 rfl) (by decide) rfl ?_
  refine x_aload_n (pc := 48) C (d_D_waitsForNoneBut 25 rfl) rfl 1 rfl ?_
  refine x_aload_n (pc := 49) C (d_D_waitsForNoneBut 26 rfl) rfl 3 rfl ?_
  cases c2 : x3 with
  | none => rw [c2] at h; cases h
  | some i1 =>
    rw [c2] at h
    dsimp only at h
    refine x_getR (pc := 50) (t := 3) C fl_D_246 rfl rfl (d_D_waitsForNoneBut 27 rfl) ?_
    refine x_iload (pc := 53) C (d_D_waitsForNoneBut 28 rfl) 0 rfl ?_
    cases c3 : f_D_holdersOfEnd x0 (st.2.2.1 2 i1 0) s0 st with
    | none => rw [c3] at h; cases h
    | some v4 =>
      rw [c3] at h
      dsimp only at h
      refine x_callV (mc := 0) (ms := 0) (pc := 55) (bL := [xR 3 (st.2.2.1 2 i1 0), xI (s0)]) (K := []) C cs_D_318 (m_D_holdersOfEnd l c3 : x_M l _ _ _ _ (.inl (some (xI v4))) _ 0 0) (by decide) rfl (Nat.le_of_ble_eq_true rfl) (d_D_waitsForNoneBut 29 rfl) ?_
      refine x_iload_n (pc := 58) C (d_D_waitsForNoneBut 30 rfl) rfl 2 rfl ?_
      refine x_iconst (pc := 59) (v := (-1)) C (by decide) (d_D_waitsForNoneBut 31 rfl) ?_
      refine x_ixor (pc := 60) C (d_D_waitsForNoneBut 32 rfl) ?_
      refine x_iand (pc := 61) C (d_D_waitsForNoneBut 33 rfl) ?_
      refine x_if_ne (pc := 62) (tgt := 69) C (d_D_waitsForNoneBut 34 rfl) (by decide) (fun c5 => ?_) (fun c5 => ?_)
      · rw [if_neg c5] at h
        refine x_iconst (pc := 69) (v := 0) C (by decide) (d_D_waitsForNoneBut 37 rfl) ?_
        cases h
        exact x_iret (pc := 70) C hret rfl (Nat.zero_le _) (Nat.zero_le _) (d_D_waitsForNoneBut 38 rfl)
      · rw [if_pos c5] at h
        refine x_iconst (pc := 65) (v := 1) C (by decide) (d_D_waitsForNoneBut 35 rfl) ?_
        refine x_goto (pc := 66) (tgt := 70) C (d_D_waitsForNoneBut 36 rfl) (by decide) ?_
        cases h
        exact x_iret (pc := 70) C hret rfl (Nat.zero_le _) (Nat.zero_le _) (d_D_waitsForNoneBut 38 rfl)
def f_D_waitsForNoneBut_19  (x0 : Nat) (x2 : Int32) (s0 : Option Nat) (st : XS) : Option Int32 :=
  match s0 with
  | none =>
    some (0)
  | some i8 =>
    match st.2.2.1 2 i8 0 with
    | none =>
      some (0)
    | some i10 =>
      match f_O_has i8 1 st with
      | none => none
      | some v12 =>
        if v12 = 0 then
          f_D_waitsForNoneBut_46 x0 x2 (some (i8)) 1 st
        else
          f_D_waitsForNoneBut_46 x0 x2 (some (i8)) 2 st
set_option maxRecDepth 100000 in
set_option maxHeartbeats 4000000 in
theorem v_D_waitsForNoneBut_19 {p : Program} {l : Launch} {e : Env} {s : State} {m : MethodId} {args : Array Value} {below : List Frame} {meth : Method} {c : Code} {D : va_G} {cA : Nat → ClassId} {g0 : Nat → Nat → Nat} {n0 : Nat → Nat} {r : Int32} (C : x_C p e rm_D_waitsForNoneBut s m args meth c D cA (x_A g0 n0 s.heap.size) M_D_waitsForNoneBut.2.1 M_D_waitsForNoneBut.1 M_D_waitsForNoneBut.2.2.1) (hret : meth.sig.returnType = M_D_waitsForNoneBut.2.2.2.1) (hmn : meth.name = M_D_waitsForNoneBut.2.2.2.2.2) (hex : c.exceptionTable.toList.map (fun h => (h.startPc, h.endPc, h.handlerPc, h.catchType)) = M_D_waitsForNoneBut.2.2.2.2.1)  (x0 : Nat) (x2 : Int32) (s0 : Option Nat) (st : XS) (h : f_D_waitsForNoneBut_19 x0 x2 s0 st = some r) : x_V p l e rm_D_waitsForNoneBut s m args below meth c D cA (x_A g0 n0 s.heap.size) M_D_waitsForNoneBut.2.2.1 g0 n0 (x_MQ D cA g0 n0 below s 0 0 (.inl (some (xI r))) st) 19 [(0, xR 0 (some (x0))), (2, xI (x2))] [xR 2 (s0)] st 0 0 := by
  unfold f_D_waitsForNoneBut_19 at h
  refine x_astore_n (pc := 19) (L2 := [(3, xR 2 (s0)), (0, xR 0 (some (x0))), (2, xI (x2))]) C (d_D_waitsForNoneBut 9 rfl) rfl (by decide) rfl ?_
  refine x_aload_n (pc := 20) C (d_D_waitsForNoneBut 10 rfl) rfl 0 rfl ?_
  refine x_ifnull (pc := 21) (tgt := 31) C (d_D_waitsForNoneBut 11 rfl) (by decide) (fun c7 => ?_) (fun i8 c7 => ?_)
  · rw [c7] at h; try rw [c7]
    dsimp only at h
    refine x_iconst (pc := 31) (v := 0) C (by decide) (d_D_waitsForNoneBut 15 rfl) ?_
    cases h
    exact x_iret (pc := 32) C hret rfl (Nat.zero_le _) (Nat.zero_le _) (d_D_waitsForNoneBut 16 rfl)
  · rw [c7] at h; try rw [c7]
    dsimp only at h
    refine x_aload_n (pc := 24) C (d_D_waitsForNoneBut 12 rfl) rfl 0 rfl ?_
    refine x_getR (pc := 25) (t := 3) C fl_D_246 rfl rfl (d_D_waitsForNoneBut 13 rfl) ?_
    refine x_ifnonnull (pc := 28) (tgt := 33) C (d_D_waitsForNoneBut 14 rfl) (by decide) (fun i10 c9 => ?_) (fun c9 => ?_)
    · rw [c9] at h; try rw [c9]
      dsimp only at h
      refine x_aload_n (pc := 33) C (d_D_waitsForNoneBut 17 rfl) rfl 0 rfl ?_
      refine x_iconst (pc := 34) (v := 1) C (by decide) (d_D_waitsForNoneBut 18 rfl) ?_
      cases c11 : f_O_has i8 1 st with
      | none => rw [c11] at h; cases h
      | some v12 =>
        rw [c11] at h
        dsimp only at h
        refine x_callV (mc := 0) (ms := 0) (pc := 35) (bL := [xI (1)]) (K := []) C cs_D_242 (m_O_has l c11 : x_M l _ _ _ _ (.inl (some (xI v12))) _ 0 0) (by decide) rfl (Nat.le_of_ble_eq_true rfl) (d_D_waitsForNoneBut 19 rfl) ?_
        refine x_if_eq (pc := 38) (tgt := 45) C (d_D_waitsForNoneBut 20 rfl) (by decide) (fun c13 => ?_) (fun c13 => ?_)
        · rw [if_pos c13] at h
          refine x_iconst (pc := 45) (v := 1) C (by decide) (d_D_waitsForNoneBut 23 rfl) ?_
          exact x_sub [1, 2, 0] rfl (v_D_waitsForNoneBut_46 C hret hmn hex _ _ _ _ _ h)
        · rw [if_neg c13] at h
          refine x_iconst (pc := 41) (v := 2) C (by decide) (d_D_waitsForNoneBut 21 rfl) ?_
          refine x_goto (pc := 42) (tgt := 46) C (d_D_waitsForNoneBut 22 rfl) (by decide) ?_
          exact x_sub [1, 2, 0] rfl (v_D_waitsForNoneBut_46 C hret hmn hex _ _ _ _ _ h)
    · rw [c9] at h; try rw [c9]
      dsimp only at h
      refine x_iconst (pc := 31) (v := 0) C (by decide) (d_D_waitsForNoneBut 15 rfl) ?_
      cases h
      exact x_iret (pc := 32) C hret rfl (Nat.zero_le _) (Nat.zero_le _) (d_D_waitsForNoneBut 16 rfl)
def f_D_waitsForNoneBut (x0 : Nat) (x1 : Option Nat) (x2 : Int32) (st : XS) : Option Int32 :=
  match x1 with
  | none => none
  | some i15 =>
    match f_P_isWaiting i15 st with
    | none => none
    | some v18 =>
      if v18 = 0 then
        f_D_waitsForNoneBut_19 x0 x2 (none) st
      else
        match f_P_openingAt i15 (st.1 1 i15 2) st with
        | none => none
        | some v21 =>
          f_D_waitsForNoneBut_19 x0 x2 (v21) st
set_option maxRecDepth 100000 in
set_option maxHeartbeats 4000000 in
theorem m_D_waitsForNoneBut (l : Launch) {x0 : Nat} {x1 : Option Nat} {x2 : Int32} {st : XS} {r : Int32} (h : f_D_waitsForNoneBut x0 x1 x2 st = some r) : x_M l M_D_waitsForNoneBut rm_D_waitsForNoneBut [xR 0 (some (x0)), xR 1 (x1), xI (x2)] st (.inl (some (xI r))) st 0 0 := by
  refine x_enter (Nat.le_of_ble_eq_true rfl) ?_
  intro p e s m below meth c D cA g args B C
  have hret := B.2.2.2.2.2.2.2.2.1
  have hmn := B.2.2.2.2.2.2.2.1
  have hex := B.2.2.2.2.2.2.2.2.2.1
  unfold f_D_waitsForNoneBut at h
  refine x_aload_n (pc := 0) C (d_D_waitsForNoneBut 0 rfl) rfl 1 rfl ?_
  cases c16 : x1 with
  | none => rw [c16] at h; cases h
  | some i15 =>
    rw [c16] at h
    dsimp only at h
    cases c17 : f_P_isWaiting i15 st with
    | none => rw [c17] at h; cases h
    | some v18 =>
      rw [c17] at h
      dsimp only at h
      refine x_callV (mc := 0) (ms := 0) (pc := 1) (bL := []) (K := []) C cs_D_301 (m_P_isWaiting l c17 : x_M l _ _ _ _ (.inl (some (xI v18))) _ 0 0) (by decide) rfl (Nat.le_of_ble_eq_true rfl) (d_D_waitsForNoneBut 1 rfl) ?_
      refine x_if_eq (pc := 4) (tgt := 18) C (d_D_waitsForNoneBut 2 rfl) (by decide) (fun c19 => ?_) (fun c19 => ?_)
      · rw [if_pos c19] at h
        refine x_nullq (pc := 18) (q := 2) C (d_D_waitsForNoneBut 8 rfl) ?_
        exact x_sub [0, 2] rfl (v_D_waitsForNoneBut_19 C hret hmn hex _ _ _ _ h)
      · rw [if_neg c19] at h
        refine x_aload_n (pc := 7) C (d_D_waitsForNoneBut 3 rfl) rfl 1 rfl ?_
        refine x_aload_n (pc := 8) C (d_D_waitsForNoneBut 4 rfl) rfl 1 rfl ?_
        refine x_getI (pc := 9) C fl_D_181 rfl (d_D_waitsForNoneBut 5 rfl) ?_
        cases c20 : f_P_openingAt i15 (st.1 1 i15 2) st with
        | none => rw [c20] at h; cases h
        | some v21 =>
          rw [c20] at h
          dsimp only at h
          refine x_callV (mc := 0) (ms := 0) (pc := 12) (bL := [xI (st.1 1 i15 2)]) (K := []) C cs_D_73 (m_P_openingAt l c20 : x_M l _ _ _ _ (.inl (some (xR 2 v21))) _ 0 0) (by decide) rfl (Nat.le_of_ble_eq_true rfl) (d_D_waitsForNoneBut 6 rfl) ?_
          refine x_goto (pc := 15) (tgt := 19) C (d_D_waitsForNoneBut 7 rfl) (by decide) ?_
          exact x_sub [0, 2] rfl (v_D_waitsForNoneBut_19 C hret hmn hex _ _ _ _ h)
def f_D_vainAmong_4  : Nat → Nat → Int32 → Int32 → Int32 → XS → Option Int32
  | 0, _, _, _, _, _ => none
  | n + 1, x0, x1, x2, x3, st =>
    if 8 ≤ x3 then
      some (x2)
    else
      if (x1 &&& ((1 : Int32) <<< (x3 &&& 31))) = 0 then
        f_D_vainAmong_4 n x0 x1 x2 (x3 + 1) st
      else
        match st.2.2.1 0 x0 0 with
        | none => none
        | some i3 =>
          if x_in x3 8 then
            match f_D_waitsForNoneBut x0 (st.2.2.1 6 i3 x3.toNatClampNeg) x1 st with
            | none => none
            | some v7 =>
              if v7 = 0 then
                f_D_vainAmong_4 n x0 x1 x2 (x3 + 1) st
              else
                f_D_vainAmong_4 n x0 x1 (x2 ||| ((1 : Int32) <<< (x3 &&& 31))) (x3 + 1) st
          else none
set_option maxRecDepth 100000 in
set_option maxHeartbeats 4000000 in
theorem v_D_vainAmong_4 {p : Program} {l : Launch} {e : Env} {s : State} {m : MethodId} {args : Array Value} {below : List Frame} {meth : Method} {c : Code} {D : va_G} {cA : Nat → ClassId} {g0 : Nat → Nat → Nat} {n0 : Nat → Nat} {r : Int32} (C : x_C p e rm_D_vainAmong s m args meth c D cA (x_A g0 n0 s.heap.size) M_D_vainAmong.2.1 M_D_vainAmong.1 M_D_vainAmong.2.2.1) (hret : meth.sig.returnType = M_D_vainAmong.2.2.2.1) (hmn : meth.name = M_D_vainAmong.2.2.2.2.2) (hex : c.exceptionTable.toList.map (fun h => (h.startPc, h.endPc, h.handlerPc, h.catchType)) = M_D_vainAmong.2.2.2.2.1)  : ∀ (n : Nat) (x0 : Nat) (x1 : Int32) (x2 : Int32) (x3 : Int32) (st : XS), f_D_vainAmong_4 n x0 x1 x2 x3 st = some r → x_V p l e rm_D_vainAmong s m args below meth c D cA (x_A g0 n0 s.heap.size) M_D_vainAmong.2.2.1 g0 n0 (x_MQ D cA g0 n0 below s 0 0 (.inl (some (xI r))) st) 4 [(0, xR 0 (some (x0))), (1, xI (x1)), (2, xI (x2)), (3, xI (x3))] [] st 0 0 := by
  intro n
  induction n with
  | zero => intro x0 x1 x2 x3 st h; cases h
  | succ n ih =>
    intro x0 x1 x2 x3 st h
    rw [f_D_vainAmong_4.eq_def] at h
    dsimp only at h
    refine x_iload_n (pc := 4) C (d_D_vainAmong 4 rfl) rfl 3 rfl ?_
    refine x_bipush (pc := 5) (v := 8) C (by decide) (d_D_vainAmong 5 rfl) ?_
    refine x_icmp_ge (pc := 7) (tgt := 47) C (d_D_vainAmong 6 rfl) (by decide) (fun c1 => ?_) (fun c1 => ?_)
    · rw [if_pos c1] at h
      refine x_iload_n (pc := 47) C (d_D_vainAmong 29 rfl) rfl 2 rfl ?_
      cases h
      exact x_iret (pc := 48) C hret rfl (Nat.zero_le _) (Nat.zero_le _) (d_D_vainAmong 30 rfl)
    · rw [if_neg c1] at h
      refine x_iconst (pc := 10) (v := 1) C (by decide) (d_D_vainAmong 7 rfl) ?_
      refine x_iload_n (pc := 11) C (d_D_vainAmong 8 rfl) rfl 3 rfl ?_
      refine x_ishl (pc := 12) C (d_D_vainAmong 9 rfl) ?_
      refine x_istore (pc := 13) (L2 := [(4, xI ((1 : Int32) <<< (x3 &&& 31))), (0, xR 0 (some (x0))), (1, xI (x1)), (2, xI (x2)), (3, xI (x3))]) C (d_D_vainAmong 10 rfl) (by decide) rfl ?_
      refine x_iload_n (pc := 15) C (d_D_vainAmong 11 rfl) rfl 2 rfl ?_
      refine x_iload (pc := 16) C (d_D_vainAmong 12 rfl) 0 rfl ?_
      refine x_iand (pc := 18) C (d_D_vainAmong 13 rfl) ?_
      refine x_if_eq (pc := 19) (tgt := 41) C (d_D_vainAmong 14 rfl) (by decide) (fun c2 => ?_) (fun c2 => ?_)
      · rw [if_pos c2] at h
        refine x_iinc (pc := 41) (v := x3 + 1) (L2 := [(3, xI (x3 + 1)), (4, xI ((1 : Int32) <<< (x3 &&& 31))), (0, xR 0 (some (x0))), (1, xI (x1)), (2, xI (x2))]) C (d_D_vainAmong 27 rfl) 4 rfl rfl (by decide) rfl ?_
        refine x_goto (pc := 44) (tgt := 4) C (d_D_vainAmong 28 rfl) (by decide) ?_
        exact x_sub [2, 3, 4, 0] rfl (ih _ _ _ _ _ h)
      · rw [if_neg c2] at h
        refine x_aload_n (pc := 22) C (d_D_vainAmong 15 rfl) rfl 1 rfl ?_
        refine x_aload_n (pc := 23) C (d_D_vainAmong 16 rfl) rfl 1 rfl ?_
        refine x_getR (pc := 24) (t := 6) C fl_D_11 rfl rfl (d_D_vainAmong 17 rfl) ?_
        refine x_iload_n (pc := 27) C (d_D_vainAmong 18 rfl) rfl 4 rfl ?_
        cases c4 : st.2.2.1 0 x0 0 with
        | none => rw [c4] at h; cases h
        | some i3 =>
          rw [c4] at h
          dsimp only at h
          by_cases b5 : x_in x3 8
          · rw [if_pos b5] at h
            refine x_aald (pc := 28) C ar_6 b5 (d_D_vainAmong 19 rfl) ?_
            refine x_iload_n (pc := 29) C (d_D_vainAmong 20 rfl) rfl 2 rfl ?_
            cases c6 : f_D_waitsForNoneBut x0 (st.2.2.1 6 i3 x3.toNatClampNeg) x1 st with
            | none => rw [c6] at h; cases h
            | some v7 =>
              rw [c6] at h
              dsimp only at h
              refine x_callV (mc := 0) (ms := 0) (pc := 30) (bL := [xR 1 (st.2.2.1 6 i3 x3.toNatClampNeg), xI (x1)]) (K := []) C cs_D_314 (m_D_waitsForNoneBut l c6 : x_M l _ _ _ _ (.inl (some (xI v7))) _ 0 0) (by decide) rfl (Nat.le_of_ble_eq_true rfl) (d_D_vainAmong 21 rfl) ?_
              refine x_if_eq (pc := 33) (tgt := 41) C (d_D_vainAmong 22 rfl) (by decide) (fun c8 => ?_) (fun c8 => ?_)
              · rw [if_pos c8] at h
                refine x_iinc (pc := 41) (v := x3 + 1) (L2 := [(3, xI (x3 + 1)), (4, xI ((1 : Int32) <<< (x3 &&& 31))), (0, xR 0 (some (x0))), (1, xI (x1)), (2, xI (x2))]) C (d_D_vainAmong 27 rfl) 4 rfl rfl (by decide) rfl ?_
                refine x_goto (pc := 44) (tgt := 4) C (d_D_vainAmong 28 rfl) (by decide) ?_
                exact x_sub [2, 3, 4, 0] rfl (ih _ _ _ _ _ h)
              · rw [if_neg c8] at h
                refine x_iload_n (pc := 36) C (d_D_vainAmong 23 rfl) rfl 3 rfl ?_
                refine x_iload (pc := 37) C (d_D_vainAmong 24 rfl) 0 rfl ?_
                refine x_ior (pc := 39) C (d_D_vainAmong 25 rfl) ?_
                refine x_istore_n (pc := 40) (L2 := [(2, xI (x2 ||| ((1 : Int32) <<< (x3 &&& 31)))), (4, xI ((1 : Int32) <<< (x3 &&& 31))), (0, xR 0 (some (x0))), (1, xI (x1)), (3, xI (x3))]) C (d_D_vainAmong 26 rfl) rfl (by decide) rfl ?_
                refine x_iinc (pc := 41) (v := x3 + 1) (L2 := [(3, xI (x3 + 1)), (2, xI (x2 ||| ((1 : Int32) <<< (x3 &&& 31)))), (4, xI ((1 : Int32) <<< (x3 &&& 31))), (0, xR 0 (some (x0))), (1, xI (x1))]) C (d_D_vainAmong 27 rfl) 4 rfl rfl (by decide) rfl ?_
                refine x_goto (pc := 44) (tgt := 4) C (d_D_vainAmong 28 rfl) (by decide) ?_
                exact x_sub [3, 4, 1, 0] rfl (ih _ _ _ _ _ h)
          · rw [if_neg b5] at h; cases h
def f_D_vainAmong (x0 : Nat) (x1 : Int32) (st : XS) : Option Int32 :=
  f_D_vainAmong_4 100 x0 x1 0 0 st
set_option maxRecDepth 100000 in
set_option maxHeartbeats 4000000 in
theorem m_D_vainAmong (l : Launch) {x0 : Nat} {x1 : Int32} {st : XS} {r : Int32} (h : f_D_vainAmong x0 x1 st = some r) : x_M l M_D_vainAmong rm_D_vainAmong [xR 0 (some (x0)), xI (x1)] st (.inl (some (xI r))) st 0 0 := by
  refine x_enter (Nat.le_of_ble_eq_true rfl) ?_
  intro p e s m below meth c D cA g args B C
  have hret := B.2.2.2.2.2.2.2.2.1
  have hmn := B.2.2.2.2.2.2.2.1
  have hex := B.2.2.2.2.2.2.2.2.2.1
  unfold f_D_vainAmong at h
  refine x_iconst (pc := 0) (v := 0) C (by decide) (d_D_vainAmong 0 rfl) ?_
  refine x_istore_n (pc := 1) (L2 := [(2, xI (0)), (0, xR 0 (some (x0))), (1, xI (x1))]) C (d_D_vainAmong 1 rfl) rfl (by decide) rfl ?_
  refine x_iconst (pc := 2) (v := 0) C (by decide) (d_D_vainAmong 2 rfl) ?_
  refine x_istore_n (pc := 3) (L2 := [(3, xI (0)), (2, xI (0)), (0, xR 0 (some (x0))), (1, xI (x1))]) C (d_D_vainAmong 3 rfl) rfl (by decide) rfl ?_
  exact x_sub [2, 3, 1, 0] rfl (v_D_vainAmong_4 C hret hmn hex 100 _ _ _ _ _ h)
def f_D_waitingInVain_6  : Nat → Nat → Int32 → Int32 → XS → Option Int32
  | 0, _, _, _, _ => none
  | n + 1, x0, x1, x2, st =>
    if 8 ≤ x2 then
      some (x1)
    else
      match f_D_vainAmong x0 x1 st with
      | none => none
      | some v3 =>
        f_D_waitingInVain_6 n x0 v3 (x2 + 1) st
set_option maxRecDepth 100000 in
set_option maxHeartbeats 4000000 in
theorem v_D_waitingInVain_6 {p : Program} {l : Launch} {e : Env} {s : State} {m : MethodId} {args : Array Value} {below : List Frame} {meth : Method} {c : Code} {D : va_G} {cA : Nat → ClassId} {g0 : Nat → Nat → Nat} {n0 : Nat → Nat} {r : Int32} (C : x_C p e rm_D_waitingInVain s m args meth c D cA (x_A g0 n0 s.heap.size) M_D_waitingInVain.2.1 M_D_waitingInVain.1 M_D_waitingInVain.2.2.1) (hret : meth.sig.returnType = M_D_waitingInVain.2.2.2.1) (hmn : meth.name = M_D_waitingInVain.2.2.2.2.2) (hex : c.exceptionTable.toList.map (fun h => (h.startPc, h.endPc, h.handlerPc, h.catchType)) = M_D_waitingInVain.2.2.2.2.1)  : ∀ (n : Nat) (x0 : Nat) (x1 : Int32) (x2 : Int32) (st : XS), f_D_waitingInVain_6 n x0 x1 x2 st = some r → x_V p l e rm_D_waitingInVain s m args below meth c D cA (x_A g0 n0 s.heap.size) M_D_waitingInVain.2.2.1 g0 n0 (x_MQ D cA g0 n0 below s 0 0 (.inl (some (xI r))) st) 6 [(0, xR 0 (some (x0))), (1, xI (x1)), (2, xI (x2))] [] st 0 0 := by
  intro n
  induction n with
  | zero => intro x0 x1 x2 st h; cases h
  | succ n ih =>
    intro x0 x1 x2 st h
    rw [f_D_waitingInVain_6.eq_def] at h
    dsimp only at h
    refine x_iload_n (pc := 6) C (d_D_waitingInVain 4 rfl) rfl 2 rfl ?_
    refine x_bipush (pc := 7) (v := 8) C (by decide) (d_D_waitingInVain 5 rfl) ?_
    refine x_icmp_ge (pc := 9) (tgt := 24) C (d_D_waitingInVain 6 rfl) (by decide) (fun c1 => ?_) (fun c1 => ?_)
    · rw [if_pos c1] at h
      refine x_iload_n (pc := 24) C (d_D_waitingInVain 13 rfl) rfl 1 rfl ?_
      cases h
      exact x_iret (pc := 25) C hret rfl (Nat.zero_le _) (Nat.zero_le _) (d_D_waitingInVain 14 rfl)
    · rw [if_neg c1] at h
      refine x_aload_n (pc := 12) C (d_D_waitingInVain 7 rfl) rfl 0 rfl ?_
      refine x_iload_n (pc := 13) C (d_D_waitingInVain 8 rfl) rfl 1 rfl ?_
      cases c2 : f_D_vainAmong x0 x1 st with
      | none => rw [c2] at h; cases h
      | some v3 =>
        rw [c2] at h
        dsimp only at h
        refine x_callV (mc := 0) (ms := 0) (pc := 14) (bL := [xI (x1)]) (K := []) C cs_D_311 (m_D_vainAmong l c2 : x_M l _ _ _ _ (.inl (some (xI v3))) _ 0 0) (by decide) rfl (Nat.le_of_ble_eq_true rfl) (d_D_waitingInVain 9 rfl) ?_
        refine x_istore_n (pc := 17) (L2 := [(1, xI (v3)), (0, xR 0 (some (x0))), (2, xI (x2))]) C (d_D_waitingInVain 10 rfl) rfl (by decide) rfl ?_
        refine x_iinc (pc := 18) (v := x2 + 1) (L2 := [(2, xI (x2 + 1)), (1, xI (v3)), (0, xR 0 (some (x0)))]) C (d_D_waitingInVain 11 rfl) 2 rfl rfl (by decide) rfl ?_
        refine x_goto (pc := 21) (tgt := 6) C (d_D_waitingInVain 12 rfl) (by decide) ?_
        exact x_sub [2, 1, 0] rfl (ih _ _ _ _ h)
def f_D_waitingInVain (x0 : Nat) (st : XS) : Option Int32 :=
  f_D_waitingInVain_6 100 x0 255 0 st
set_option maxRecDepth 100000 in
set_option maxHeartbeats 4000000 in
theorem m_D_waitingInVain (l : Launch) {x0 : Nat} {st : XS} {r : Int32} (h : f_D_waitingInVain x0 st = some r) : x_M l M_D_waitingInVain rm_D_waitingInVain [xR 0 (some (x0))] st (.inl (some (xI r))) st 0 0 := by
  refine x_enter (Nat.le_of_ble_eq_true rfl) ?_
  intro p e s m below meth c D cA g args B C
  have hret := B.2.2.2.2.2.2.2.2.1
  have hmn := B.2.2.2.2.2.2.2.1
  have hex := B.2.2.2.2.2.2.2.2.2.1
  unfold f_D_waitingInVain at h
  refine x_sipush (pc := 0) (v := 255) C (by decide) (d_D_waitingInVain 0 rfl) ?_
  refine x_istore_n (pc := 3) (L2 := [(1, xI (255)), (0, xR 0 (some (x0)))]) C (d_D_waitingInVain 1 rfl) rfl (by decide) rfl ?_
  refine x_iconst (pc := 4) (v := 0) C (by decide) (d_D_waitingInVain 2 rfl) ?_
  refine x_istore_n (pc := 5) (L2 := [(2, xI (0)), (1, xI (255)), (0, xR 0 (some (x0)))]) C (d_D_waitingInVain 3 rfl) rfl (by decide) rfl ?_
  exact x_sub [2, 1, 0] rfl (v_D_waitingInVain_6 C hret hmn hex 100 _ _ _ _ h)
def f_D_count (x0 : Nat) (x1 : Int32) (st : XS) : Option Int32 :=
  if x1 = 0 then
    match f_D_procsThere x0 st with
    | none => none
    | some v3 =>
      some (v3)
  else if x1 = 1 then
    match f_D_procsWaiting x0 st with
    | none => none
    | some v7 =>
      some (v7)
  else if x1 = 2 then
    match f_D_openingsThere x0 st with
    | none => none
    | some v11 =>
      some (v11)
  else if x1 = 3 then
    match f_D_pipesThere x0 st with
    | none => none
    | some v15 =>
      some (v15)
  else if x1 = 4 then
    match f_D_filesThere x0 st with
    | none => none
    | some v19 =>
      some (v19)
  else if x1 = 5 then
    match f_D_filesWithNames x0 st with
    | none => none
    | some v23 =>
      some (v23)
  else if x1 = 6 then
    match f_D_bytesInPipes x0 st with
    | none => none
    | some v27 =>
      some (v27)
  else if x1 = 7 then
    some (st.1 0 x0 6)
  else if x1 = 8 then
    match f_D_waitingInVain x0 st with
    | none => none
    | some v32 =>
      match f_Int_bitCount v32 st with
      | none => none
      | some v34 =>
        some (v34)
  else
    some ((-1))
set_option maxRecDepth 100000 in
set_option maxHeartbeats 4000000 in
theorem m_D_count (l : Launch) {x0 : Nat} {x1 : Int32} {st : XS} {r : Int32} (h : f_D_count x0 x1 st = some r) : x_M l M_D_count rm_D_count [xR 0 (some (x0)), xI (x1)] st (.inl (some (xI r))) st 0 0 := by
  refine x_enter (Nat.le_of_ble_eq_true rfl) ?_
  intro p e s m below meth c D cA g args B C
  have hret := B.2.2.2.2.2.2.2.2.1
  have hmn := B.2.2.2.2.2.2.2.1
  have hex := B.2.2.2.2.2.2.2.2.2.1
  unfold f_D_count at h
  refine x_iload_n (pc := 0) C (d_D_count 0 rfl) rfl 1 rfl ?_
  by_cases c1 : x1 = 0
  · rw [if_pos c1] at h
    refine x_tsw (pc := 1) (v := 0) (tgt := 52) C (d_D_count 1 rfl) c1 (by decide) (by decide) rfl (by decide) ?_
    refine x_aload_n (pc := 52) C (d_D_count 2 rfl) rfl 0 rfl ?_
    cases c2 : f_D_procsThere x0 st with
    | none => rw [c2] at h; cases h
    | some v3 =>
      rw [c2] at h
      dsimp only at h
      refine x_callV (mc := 0) (ms := 0) (pc := 53) (bL := []) (K := []) C cs_D_200 (m_D_procsThere l c2 : x_M l _ _ _ _ (.inl (some (xI v3))) _ 0 0) (by decide) rfl (Nat.le_of_ble_eq_true rfl) (d_D_count 3 rfl) ?_
      cases h
      exact x_iret (pc := 56) C hret rfl (Nat.zero_le _) (Nat.zero_le _) (d_D_count 4 rfl)
  rw [if_neg c1] at h
  by_cases c5 : x1 = 1
  · rw [if_pos c5] at h
    refine x_tsw (pc := 1) (v := 1) (tgt := 57) C (d_D_count 1 rfl) c5 (by decide) (by decide) rfl (by decide) ?_
    refine x_aload_n (pc := 57) C (d_D_count 5 rfl) rfl 0 rfl ?_
    cases c6 : f_D_procsWaiting x0 st with
    | none => rw [c6] at h; cases h
    | some v7 =>
      rw [c6] at h
      dsimp only at h
      refine x_callV (mc := 0) (ms := 0) (pc := 58) (bL := []) (K := []) C cs_D_203 (m_D_procsWaiting l c6 : x_M l _ _ _ _ (.inl (some (xI v7))) _ 0 0) (by decide) rfl (Nat.le_of_ble_eq_true rfl) (d_D_count 6 rfl) ?_
      cases h
      exact x_iret (pc := 61) C hret rfl (Nat.zero_le _) (Nat.zero_le _) (d_D_count 7 rfl)
  rw [if_neg c5] at h
  by_cases c9 : x1 = 2
  · rw [if_pos c9] at h
    refine x_tsw (pc := 1) (v := 2) (tgt := 62) C (d_D_count 1 rfl) c9 (by decide) (by decide) rfl (by decide) ?_
    refine x_aload_n (pc := 62) C (d_D_count 8 rfl) rfl 0 rfl ?_
    cases c10 : f_D_openingsThere x0 st with
    | none => rw [c10] at h; cases h
    | some v11 =>
      rw [c10] at h
      dsimp only at h
      refine x_callV (mc := 0) (ms := 0) (pc := 63) (bL := []) (K := []) C cs_D_206 (m_D_openingsThere l c10 : x_M l _ _ _ _ (.inl (some (xI v11))) _ 0 0) (by decide) rfl (Nat.le_of_ble_eq_true rfl) (d_D_count 9 rfl) ?_
      cases h
      exact x_iret (pc := 66) C hret rfl (Nat.zero_le _) (Nat.zero_le _) (d_D_count 10 rfl)
  rw [if_neg c9] at h
  by_cases c13 : x1 = 3
  · rw [if_pos c13] at h
    refine x_tsw (pc := 1) (v := 3) (tgt := 67) C (d_D_count 1 rfl) c13 (by decide) (by decide) rfl (by decide) ?_
    refine x_aload_n (pc := 67) C (d_D_count 11 rfl) rfl 0 rfl ?_
    cases c14 : f_D_pipesThere x0 st with
    | none => rw [c14] at h; cases h
    | some v15 =>
      rw [c14] at h
      dsimp only at h
      refine x_callV (mc := 0) (ms := 0) (pc := 68) (bL := []) (K := []) C cs_D_209 (m_D_pipesThere l c14 : x_M l _ _ _ _ (.inl (some (xI v15))) _ 0 0) (by decide) rfl (Nat.le_of_ble_eq_true rfl) (d_D_count 12 rfl) ?_
      cases h
      exact x_iret (pc := 71) C hret rfl (Nat.zero_le _) (Nat.zero_le _) (d_D_count 13 rfl)
  rw [if_neg c13] at h
  by_cases c17 : x1 = 4
  · rw [if_pos c17] at h
    refine x_tsw (pc := 1) (v := 4) (tgt := 72) C (d_D_count 1 rfl) c17 (by decide) (by decide) rfl (by decide) ?_
    refine x_aload_n (pc := 72) C (d_D_count 14 rfl) rfl 0 rfl ?_
    cases c18 : f_D_filesThere x0 st with
    | none => rw [c18] at h; cases h
    | some v19 =>
      rw [c18] at h
      dsimp only at h
      refine x_callV (mc := 0) (ms := 0) (pc := 73) (bL := []) (K := []) C cs_D_212 (m_D_filesThere l c18 : x_M l _ _ _ _ (.inl (some (xI v19))) _ 0 0) (by decide) rfl (Nat.le_of_ble_eq_true rfl) (d_D_count 15 rfl) ?_
      cases h
      exact x_iret (pc := 76) C hret rfl (Nat.zero_le _) (Nat.zero_le _) (d_D_count 16 rfl)
  rw [if_neg c17] at h
  by_cases c21 : x1 = 5
  · rw [if_pos c21] at h
    refine x_tsw (pc := 1) (v := 5) (tgt := 77) C (d_D_count 1 rfl) c21 (by decide) (by decide) rfl (by decide) ?_
    refine x_aload_n (pc := 77) C (d_D_count 17 rfl) rfl 0 rfl ?_
    cases c22 : f_D_filesWithNames x0 st with
    | none => rw [c22] at h; cases h
    | some v23 =>
      rw [c22] at h
      dsimp only at h
      refine x_callV (mc := 0) (ms := 0) (pc := 78) (bL := []) (K := []) C cs_D_215 (m_D_filesWithNames l c22 : x_M l _ _ _ _ (.inl (some (xI v23))) _ 0 0) (by decide) rfl (Nat.le_of_ble_eq_true rfl) (d_D_count 18 rfl) ?_
      cases h
      exact x_iret (pc := 81) C hret rfl (Nat.zero_le _) (Nat.zero_le _) (d_D_count 19 rfl)
  rw [if_neg c21] at h
  by_cases c25 : x1 = 6
  · rw [if_pos c25] at h
    refine x_tsw (pc := 1) (v := 6) (tgt := 82) C (d_D_count 1 rfl) c25 (by decide) (by decide) rfl (by decide) ?_
    refine x_aload_n (pc := 82) C (d_D_count 20 rfl) rfl 0 rfl ?_
    cases c26 : f_D_bytesInPipes x0 st with
    | none => rw [c26] at h; cases h
    | some v27 =>
      rw [c26] at h
      dsimp only at h
      refine x_callV (mc := 0) (ms := 0) (pc := 83) (bL := []) (K := []) C cs_D_218 (m_D_bytesInPipes l c26 : x_M l _ _ _ _ (.inl (some (xI v27))) _ 0 0) (by decide) rfl (Nat.le_of_ble_eq_true rfl) (d_D_count 21 rfl) ?_
      cases h
      exact x_iret (pc := 86) C hret rfl (Nat.zero_le _) (Nat.zero_le _) (d_D_count 22 rfl)
  rw [if_neg c25] at h
  by_cases c29 : x1 = 7
  · rw [if_pos c29] at h
    refine x_tsw (pc := 1) (v := 7) (tgt := 87) C (d_D_count 1 rfl) c29 (by decide) (by decide) rfl (by decide) ?_
    refine x_aload_n (pc := 87) C (d_D_count 23 rfl) rfl 0 rfl ?_
    refine x_getI (pc := 88) C fl_D_43 rfl (d_D_count 24 rfl) ?_
    cases h
    exact x_iret (pc := 91) C hret rfl (Nat.zero_le _) (Nat.zero_le _) (d_D_count 25 rfl)
  rw [if_neg c29] at h
  by_cases c30 : x1 = 8
  · rw [if_pos c30] at h
    refine x_tsw (pc := 1) (v := 8) (tgt := 92) C (d_D_count 1 rfl) c30 (by decide) (by decide) rfl (by decide) ?_
    refine x_aload_n (pc := 92) C (d_D_count 26 rfl) rfl 0 rfl ?_
    cases c31 : f_D_waitingInVain x0 st with
    | none => rw [c31] at h; cases h
    | some v32 =>
      rw [c31] at h
      dsimp only at h
      refine x_callV (mc := 0) (ms := 0) (pc := 93) (bL := []) (K := []) C cs_D_221 (m_D_waitingInVain l c31 : x_M l _ _ _ _ (.inl (some (xI v32))) _ 0 0) (by decide) rfl (Nat.le_of_ble_eq_true rfl) (d_D_count 27 rfl) ?_
      cases c33 : f_Int_bitCount v32 st with
      | none => rw [c33] at h; cases h
      | some v34 =>
        rw [c33] at h
        dsimp only at h
        refine x_callS (mc := 0) (ms := 0) (pc := 96) (aL := [xI (v32)]) (K := []) C cs_D_224 (m_Int_bitCount l c33 : x_M l _ _ _ _ (.inl (some (xI v34))) _ 0 0) (by decide) rfl (Nat.le_of_ble_eq_true rfl) (d_D_count 28 rfl) ?_
        cases h
        exact x_iret (pc := 99) C hret rfl (Nat.zero_le _) (Nat.zero_le _) (d_D_count 29 rfl)
  rw [if_neg c30] at h
  refine x_tout (pc := 1) (tgt := 100) C (d_D_count 1 rfl) (x_swo (fun k h1 h2 => by
      have h3 : k = 0 ∨ k = 1 ∨ k = 2 ∨ k = 3 ∨ k = 4 ∨ k = 5 ∨ k = 6 ∨ k = 7 ∨ k = 8 := by omega
      rcases h3 with rfl | rfl | rfl | rfl | rfl | rfl | rfl | rfl | rfl <;> assumption)) (by decide) ?_
  refine x_iconst (pc := 100) (v := (-1)) C (by decide) (d_D_count 30 rfl) ?_
  cases h
  exact x_iret (pc := 101) C hret rfl (Nat.zero_le _) (Nat.zero_le _) (d_D_count 31 rfl)
def f_D_readyProc (x0 : Nat) (x1 : Int32) (st : XS) : Option (Option Nat ⊕ String) :=
  match f_D_procThere x0 x1 st with
  | none => none
  | some v2 =>
    match v2 with
    | none =>
      some (.inr "java/lang/IllegalStateException")
    | some i4 =>
      if (st.1 1 i4 1) = 1 then
        some (.inl (some (i4)))
      else
        some (.inr "java/lang/IllegalStateException")
set_option maxRecDepth 100000 in
set_option maxHeartbeats 4000000 in
theorem m_D_readyProc (l : Launch) (hfl : l.flags = flags0) {x0 : Nat} {x1 : Int32} {st : XS} {r : Option Nat ⊕ String} (h : f_D_readyProc x0 x1 st = some r) : x_M l M_D_readyProc rm_D_readyProc [xR 0 (some (x0)), xI (x1)] st (xth (fun v => some (xR 1 v)) r) st (xmc r) (xms r) := by
  refine x_enter (Nat.le_of_ble_eq_true rfl) ?_
  intro p e s m below meth c D cA g args B C
  have hret := B.2.2.2.2.2.2.2.2.1
  have hmn := B.2.2.2.2.2.2.2.1
  have hex := B.2.2.2.2.2.2.2.2.2.1
  unfold f_D_readyProc at h
  refine x_aload_n (pc := 0) C (d_D_readyProc 0 rfl) rfl 0 rfl ?_
  refine x_iload_n (pc := 1) C (d_D_readyProc 1 rfl) rfl 1 rfl ?_
  cases c1 : f_D_procThere x0 x1 st with
  | none => rw [c1] at h; cases h
  | some v2 =>
    rw [c1] at h
    dsimp only at h
    refine x_callV (mc := 0) (ms := 0) (pc := 2) (bL := [xI (x1)]) (K := []) C cs_D_77 (m_D_procThere l c1 : x_M l _ _ _ _ (.inl (some (xR 1 v2))) _ 0 0) (by decide) rfl (Nat.le_of_ble_eq_true rfl) (d_D_readyProc 2 rfl) ?_
    refine x_astore_n (pc := 5) (L2 := [(2, xR 1 (v2)), (0, xR 0 (some (x0))), (1, xI (x1))]) C (d_D_readyProc 3 rfl) rfl (by decide) rfl ?_
    refine x_aload_n (pc := 6) C (d_D_readyProc 4 rfl) rfl 0 rfl ?_
    refine x_ifnull (pc := 7) (tgt := 18) C (d_D_readyProc 5 rfl) (by decide) (fun c3 => ?_) (fun i4 c3 => ?_)
    · rw [c3] at h; try rw [c3]
      dsimp only at h
      cases h
      exact x_throw (pc := 18) (tx := "the process is absent or waits") C hfl w_340 w_341 w_11 (by decide +kernel) oa_D_84 (by decide +kernel) hex (Nat.le_of_ble_eq_true rfl) (by decide) (by decide) (Nat.le_refl 1) (Nat.le_refl 6) (by decide) (by decide) (d_D_readyProc 10 rfl) (d_D_readyProc 11 rfl) (d_D_readyProc 12 rfl) (d_D_readyProc 13 rfl) (d_D_readyProc 14 rfl)
    · rw [c3] at h; try rw [c3]
      dsimp only at h
      refine x_aload_n (pc := 10) C (d_D_readyProc 6 rfl) rfl 0 rfl ?_
      refine x_getI (pc := 11) C fl_D_178 rfl (d_D_readyProc 7 rfl) ?_
      refine x_iconst (pc := 14) (v := 1) C (by decide) (d_D_readyProc 8 rfl) ?_
      refine x_icmp_eq (pc := 15) (tgt := 28) C (d_D_readyProc 9 rfl) (by decide) (fun c5 => ?_) (fun c5 => ?_)
      · rw [if_pos c5] at h
        refine x_aload_n (pc := 28) C (d_D_readyProc 15 rfl) rfl 0 rfl ?_
        cases h
        exact x_aret (pc := 29) C hret (Or.inl ⟨_, rfl⟩) (Nat.zero_le _) (Nat.zero_le _) (d_D_readyProc 16 rfl)
      · rw [if_neg c5] at h
        cases h
        exact x_throw (pc := 18) (tx := "the process is absent or waits") C hfl w_340 w_341 w_11 (by decide +kernel) oa_D_84 (by decide +kernel) hex (Nat.le_of_ble_eq_true rfl) (by decide) (by decide) (Nat.le_refl 1) (Nat.le_refl 6) (by decide) (by decide) (d_D_readyProc 10 rfl) (d_D_readyProc 11 rfl) (d_D_readyProc 12 rfl) (d_D_readyProc 13 rfl) (d_D_readyProc 14 rfl)
def f_D_fork_34  : Nat → Option Nat → Int32 → Option Nat → Int32 → XS → Option ((Int32 ⊕ String) × XS)
  | 0, _, _, _, _, _ => none
  | n + 1, x2, x3, x4, x5, st =>
    if 8 ≤ x5 then
      some (.inl (x3), st)
    else
      match x2 with
      | none => none
      | some i2 =>
        match f_P_openingAt i2 x5 st with
        | none => none
        | some v5 =>
          match v5 with
          | none =>
            f_D_fork_34 n (some (i2)) x3 (x4) (x5 + 1) st
          | some i7 =>
            match x4 with
            | none => none
            | some i8 =>
              match f_P_hold i8 x5 (some (i7)) st with
              | none => none
              | some (_, st12) =>
                f_D_fork_34 n (some (i2)) x3 (some (i8)) (x5 + 1) st12
set_option maxRecDepth 100000 in
set_option maxHeartbeats 4000000 in
theorem v_D_fork_34 {p : Program} {l : Launch} {e : Env} {s : State} {m : MethodId} {args : Array Value} {below : List Frame} {meth : Method} {c : Code} {D : va_G} {cA : Nat → ClassId} {g0 : Nat → Nat → Nat} {n0 : Nat → Nat} {r : Int32 ⊕ String} {st2 : XS} (C : x_C p e rm_D_fork s m args meth c D cA (x_A g0 n0 s.heap.size) M_D_fork.2.1 M_D_fork.1 M_D_fork.2.2.1) (hret : meth.sig.returnType = M_D_fork.2.2.2.1) (hmn : meth.name = M_D_fork.2.2.2.2.2) (hex : c.exceptionTable.toList.map (fun h => (h.startPc, h.endPc, h.handlerPc, h.catchType)) = M_D_fork.2.2.2.2.1) (hfl : l.flags = flags0)  : ∀ (n : Nat) (x2 : Option Nat) (x3 : Int32) (x4 : Option Nat) (x5 : Int32) (st : XS), f_D_fork_34 n x2 x3 x4 x5 st = some (r, st2) → x_V p l e rm_D_fork s m args below meth c D cA (x_A g0 n0 s.heap.size) M_D_fork.2.2.1 g0 n0 (x_MQ D cA g0 n0 below s (xmc r) (xms r) (xth (fun v => some (xI v)) r) st2) 34 [(2, xR 1 (x2)), (3, xI (x3)), (4, xR 1 (x4)), (5, xI (x5))] [] st 0 0 := by
  intro n
  induction n with
  | zero => intro x2 x3 x4 x5 st h; cases h
  | succ n ih =>
    intro x2 x3 x4 x5 st h
    rw [f_D_fork_34.eq_def] at h
    dsimp only at h
    refine x_iload (pc := 34) C (d_D_fork 20 rfl) 3 rfl ?_
    refine x_bipush (pc := 36) (v := 8) C (by decide) (d_D_fork 21 rfl) ?_
    refine x_icmp_ge (pc := 38) (tgt := 69) C (d_D_fork 22 rfl) (by decide) (fun c1 => ?_) (fun c1 => ?_)
    · rw [if_pos c1] at h
      refine x_iload_n (pc := 69) C (d_D_fork 35 rfl) rfl 1 rfl ?_
      cases h
      exact x_iret (pc := 70) C hret rfl (Nat.zero_le _) (Nat.zero_le _) (d_D_fork 36 rfl)
    · rw [if_neg c1] at h
      refine x_aload_n (pc := 41) C (d_D_fork 23 rfl) rfl 0 rfl ?_
      refine x_iload (pc := 42) C (d_D_fork 24 rfl) 3 rfl ?_
      cases c3 : x2 with
      | none => rw [c3] at h; cases h
      | some i2 =>
        rw [c3] at h
        dsimp only at h
        cases c4 : f_P_openingAt i2 x5 st with
        | none => rw [c4] at h; cases h
        | some v5 =>
          rw [c4] at h
          dsimp only at h
          refine x_callV (mc := 0) (ms := 0) (pc := 44) (bL := [xI (x5)]) (K := []) C cs_D_73 (m_P_openingAt l c4 : x_M l _ _ _ _ (.inl (some (xR 2 v5))) _ 0 0) (by decide) rfl (Nat.le_of_ble_eq_true rfl) (d_D_fork 25 rfl) ?_
          refine x_astore (pc := 47) (L2 := [(6, xR 2 (v5)), (2, xR 1 (some (i2))), (3, xI (x3)), (4, xR 1 (x4)), (5, xI (x5))]) C (d_D_fork 26 rfl) (by decide) rfl ?_
          refine x_aload (pc := 49) C (d_D_fork 27 rfl) 0 rfl ?_
          refine x_ifnull (pc := 51) (tgt := 63) C (d_D_fork 28 rfl) (by decide) (fun c6 => ?_) (fun i7 c6 => ?_)
          · rw [c6] at h; try rw [c6]
            dsimp only at h
            refine x_iinc (pc := 63) (v := x5 + 1) (L2 := [(5, xI (x5 + 1)), (6, xR 2 (none)), (2, xR 1 (some (i2))), (3, xI (x3)), (4, xR 1 (x4))]) C (d_D_fork 33 rfl) 4 rfl rfl (by decide) rfl ?_
            refine x_goto (pc := 66) (tgt := 34) C (d_D_fork 34 rfl) (by decide) ?_
            exact x_sub [2, 3, 4, 0] rfl (ih _ _ _ _ _ h)
          · rw [c6] at h; try rw [c6]
            dsimp only at h
            refine x_aload (pc := 54) C (d_D_fork 29 rfl) 3 rfl ?_
            refine x_iload (pc := 56) C (d_D_fork 30 rfl) 4 rfl ?_
            refine x_aload (pc := 58) C (d_D_fork 31 rfl) 0 rfl ?_
            cases c9 : x4 with
            | none => rw [c9] at h; cases h
            | some i8 =>
              rw [c9] at h
              dsimp only at h
              cases c10 : f_P_hold i8 x5 (some (i7)) st with
              | none => rw [c10] at h; cases h
              | some w13 =>
                obtain ⟨v11, st12⟩ := w13
                rw [c10] at h
                dsimp only at h
                refine x_callV (mc := 0) (ms := 0) (pc := 60) (bL := [xI (x5), xR 2 (some (i7))]) (K := []) C cs_D_65 (m_P_hold l c10 : x_M l _ _ _ _ (.inl none) _ 0 0) (by decide) rfl (Nat.le_of_ble_eq_true rfl) (d_D_fork 32 rfl) ?_
                refine x_iinc (pc := 63) (v := x5 + 1) (L2 := [(5, xI (x5 + 1)), (6, xR 2 (some (i7))), (2, xR 1 (some (i2))), (3, xI (x3)), (4, xR 1 (some (i8)))]) C (d_D_fork 33 rfl) 4 rfl rfl (by decide) rfl ?_
                refine x_goto (pc := 66) (tgt := 34) C (d_D_fork 34 rfl) (by decide) ?_
                exact x_sub [2, 3, 4, 0] rfl (ih _ _ _ _ _ h)
def f_D_fork (x0 : Nat) (x1 : Int32) (st : XS) : Option ((Int32 ⊕ String) × XS) :=
  match f_D_readyProc x0 x1 st with
  | none => none
  | some (.inr e_31) => some (.inr e_31, st)
  | some (.inl v16) =>
    match f_D_leastAbsent x0 st with
    | none => none
    | some v18 =>
      if 0 ≤ v18 then
        match st.2.2.1 0 x0 0 with
        | none => none
        | some i20 =>
          if x_in v18 8 then
            match st.2.2.1 6 i20 v18.toNatClampNeg with
            | none => none
            | some i23 =>
              match f_P_begin i23 st with
              | none => none
              | some (_, st27) =>
                f_D_fork_34 100 (v16) v18 (some (i23)) 0 st27
          else none
      else
        some (.inl ((-4)), st)
set_option maxRecDepth 100000 in
set_option maxHeartbeats 4000000 in
theorem m_D_fork (l : Launch) (hfl : l.flags = flags0) {x0 : Nat} {x1 : Int32} {st : XS} {r : Int32 ⊕ String} {st2 : XS} (h : f_D_fork x0 x1 st = some (r, st2)) : x_M l M_D_fork rm_D_fork [xR 0 (some (x0)), xI (x1)] st (xth (fun v => some (xI v)) r) st2 (xmc r) (xms r) := by
  refine x_enter (Nat.le_of_ble_eq_true rfl) ?_
  intro p e s m below meth c D cA g args B C
  have hret := B.2.2.2.2.2.2.2.2.1
  have hmn := B.2.2.2.2.2.2.2.1
  have hex := B.2.2.2.2.2.2.2.2.2.1
  unfold f_D_fork at h
  refine x_aload_n (pc := 0) C (d_D_fork 0 rfl) rfl 0 rfl ?_
  refine x_iload_n (pc := 1) C (d_D_fork 1 rfl) rfl 1 rfl ?_
  cases c15 : f_D_readyProc x0 x1 st with
  | none => rw [c15] at h; cases h
  | some w30 =>
    cases w30 with
    | inr e_31 =>
      rw [c15] at h
      dsimp only at h
      cases h
      exact x_callVt (mc := 1) (ms := 6) (pc := 2) (bL := [xI (x1)]) (K := []) C cs_D_69 (m_D_readyProc l hfl c15 : x_M l _ _ _ _ (.inr e_31) _ 1 6) (by decide) rfl (Nat.le_of_ble_eq_true rfl) (d_D_fork 2 rfl) (x_out C (by rw [List.map_eq_nil_iff.mp hex]; intro x hx; cases hx) (Nat.le_refl 1) (Nat.le_refl 6))
    | inl v16 =>
      rw [c15] at h
      dsimp only at h
      refine x_callV (mc := 0) (ms := 0) (pc := 2) (bL := [xI (x1)]) (K := []) C cs_D_69 (m_D_readyProc l hfl c15 : x_M l _ _ _ _ (.inl (some (xR 1 v16))) _ 0 0) (by decide) rfl (Nat.le_of_ble_eq_true rfl) (d_D_fork 2 rfl) ?_
      refine x_astore_n (pc := 5) (L2 := [(2, xR 1 (v16)), (0, xR 0 (some (x0))), (1, xI (x1))]) C (d_D_fork 3 rfl) rfl (by decide) rfl ?_
      refine x_aload_n (pc := 6) C (d_D_fork 4 rfl) rfl 1 rfl ?_
      cases c17 : f_D_leastAbsent x0 st with
      | none => rw [c17] at h; cases h
      | some v18 =>
        rw [c17] at h
        dsimp only at h
        refine x_callV (mc := 0) (ms := 0) (pc := 7) (bL := []) (K := []) C cs_D_51 (m_D_leastAbsent l c17 : x_M l _ _ _ _ (.inl (some (xI v18))) _ 0 0) (by decide) rfl (Nat.le_of_ble_eq_true rfl) (d_D_fork 5 rfl) ?_
        refine x_istore_n (pc := 10) (L2 := [(3, xI (v18)), (2, xR 1 (v16)), (0, xR 0 (some (x0))), (1, xI (x1))]) C (d_D_fork 6 rfl) rfl (by decide) rfl ?_
        refine x_iload_n (pc := 11) C (d_D_fork 7 rfl) rfl 0 rfl ?_
        refine x_if_ge (pc := 12) (tgt := 18) C (d_D_fork 8 rfl) (by decide) (fun c19 => ?_) (fun c19 => ?_)
        · rw [if_pos c19] at h
          refine x_aload_n (pc := 18) C (d_D_fork 11 rfl) rfl 2 rfl ?_
          refine x_getR (pc := 19) (t := 6) C fl_D_11 rfl rfl (d_D_fork 12 rfl) ?_
          refine x_iload_n (pc := 22) C (d_D_fork 13 rfl) rfl 0 rfl ?_
          cases c21 : st.2.2.1 0 x0 0 with
          | none => rw [c21] at h; cases h
          | some i20 =>
            rw [c21] at h
            dsimp only at h
            by_cases b22 : x_in v18 8
            · rw [if_pos b22] at h
              refine x_aald (pc := 23) C ar_6 b22 (d_D_fork 14 rfl) ?_
              refine x_astore (pc := 24) (L2 := [(4, xR 1 (st.2.2.1 6 i20 v18.toNatClampNeg)), (3, xI (v18)), (2, xR 1 (v16)), (0, xR 0 (some (x0))), (1, xI (x1))]) C (d_D_fork 15 rfl) (by decide) rfl ?_
              refine x_aload (pc := 26) C (d_D_fork 16 rfl) 0 rfl ?_
              cases c24 : st.2.2.1 6 i20 v18.toNatClampNeg with
              | none => rw [c24] at h; cases h
              | some i23 =>
                rw [c24] at h
                dsimp only at h
                cases c25 : f_P_begin i23 st with
                | none => rw [c25] at h; cases h
                | some w28 =>
                  obtain ⟨v26, st27⟩ := w28
                  rw [c25] at h
                  dsimp only at h
                  refine x_callV (mc := 0) (ms := 0) (pc := 28) (bL := []) (K := []) C cs_D_59 (m_P_begin l c25 : x_M l _ _ _ _ (.inl none) _ 0 0) (by decide) rfl (Nat.le_of_ble_eq_true rfl) (d_D_fork 17 rfl) ?_
                  refine x_iconst (pc := 31) (v := 0) C (by decide) (d_D_fork 18 rfl) ?_
                  refine x_istore (pc := 32) (L2 := [(5, xI (0)), (4, xR 1 (some (i23))), (3, xI (v18)), (2, xR 1 (v16)), (0, xR 0 (some (x0))), (1, xI (x1))]) C (d_D_fork 19 rfl) (by decide) rfl ?_
                  exact x_sub [3, 2, 1, 0] rfl (v_D_fork_34 C hret hmn hex hfl 100 _ _ _ _ _ h)
            · rw [if_neg b22] at h; cases h
        · rw [if_neg c19] at h
          refine x_bipush (pc := 15) (v := (-4)) C (by decide) (d_D_fork 9 rfl) ?_
          cases h
          exact x_iret (pc := 17) C hret rfl (Nat.zero_le _) (Nat.zero_le _) (d_D_fork 10 rfl)
def f_D_hindranceToRead (x0 : Nat) (x1 : Option Nat) (x2 : Int32) (st : XS) : Option Int32 :=
  match x1 with
  | none => none
  | some i1 =>
    match f_O_has i1 1 st with
    | none => none
    | some v4 =>
      if v4 = 0 then
        some ((-1))
      else
        if x2 = 0 then
          some (0)
        else
          match st.2.2.1 2 i1 1 with
          | none =>
            match st.2.2.1 2 i1 0 with
            | none =>
              match st.2.2.1 0 x0 4 with
              | none => none
              | some i11 =>
                if (st.1 5 i11 2) = 0 then
                  some ((-6))
                else
                  some (0)
            | some i10 =>
              match st.2.2.1 3 i10 0 with
              | none => none
              | some i14 =>
                if (st.1 5 i14 2) = 0 then
                  if (st.1 3 i10 2) ≤ 0 then
                    some (0)
                  else
                    some ((-6))
                else
                  some (0)
          | some i8 =>
            some (0)
set_option maxRecDepth 100000 in
set_option maxHeartbeats 4000000 in
theorem m_D_hindranceToRead (l : Launch) {x0 : Nat} {x1 : Option Nat} {x2 : Int32} {st : XS} {r : Int32} (h : f_D_hindranceToRead x0 x1 x2 st = some r) : x_M l M_D_hindranceToRead rm_D_hindranceToRead [xR 0 (some (x0)), xR 2 (x1), xI (x2)] st (.inl (some (xI r))) st 0 0 := by
  refine x_enter (Nat.le_of_ble_eq_true rfl) ?_
  intro p e s m below meth c D cA g args B C
  have hret := B.2.2.2.2.2.2.2.2.1
  have hmn := B.2.2.2.2.2.2.2.1
  have hex := B.2.2.2.2.2.2.2.2.2.1
  unfold f_D_hindranceToRead at h
  refine x_aload_n (pc := 0) C (d_D_hindranceToRead 0 rfl) rfl 1 rfl ?_
  refine x_iconst (pc := 1) (v := 1) C (by decide) (d_D_hindranceToRead 1 rfl) ?_
  cases c2 : x1 with
  | none => rw [c2] at h; cases h
  | some i1 =>
    rw [c2] at h
    dsimp only at h
    cases c3 : f_O_has i1 1 st with
    | none => rw [c3] at h; cases h
    | some v4 =>
      rw [c3] at h
      dsimp only at h
      refine x_callV (mc := 0) (ms := 0) (pc := 2) (bL := [xI (1)]) (K := []) C cs_D_242 (m_O_has l c3 : x_M l _ _ _ _ (.inl (some (xI v4))) _ 0 0) (by decide) rfl (Nat.le_of_ble_eq_true rfl) (d_D_hindranceToRead 2 rfl) ?_
      refine x_if_ne (pc := 5) (tgt := 10) C (d_D_hindranceToRead 3 rfl) (by decide) (fun c5 => ?_) (fun c5 => ?_)
      · rw [if_neg c5] at h
        refine x_iload_n (pc := 10) C (d_D_hindranceToRead 6 rfl) rfl 2 rfl ?_
        refine x_if_eq (pc := 11) (tgt := 21) C (d_D_hindranceToRead 7 rfl) (by decide) (fun c6 => ?_) (fun c6 => ?_)
        · rw [if_pos c6] at h
          refine x_iconst (pc := 21) (v := 0) C (by decide) (d_D_hindranceToRead 11 rfl) ?_
          cases h
          exact x_iret (pc := 22) C hret rfl (Nat.zero_le _) (Nat.zero_le _) (d_D_hindranceToRead 12 rfl)
        · rw [if_neg c6] at h
          refine x_aload_n (pc := 14) C (d_D_hindranceToRead 8 rfl) rfl 1 rfl ?_
          refine x_getR (pc := 15) (t := 4) C fl_D_158 rfl rfl (d_D_hindranceToRead 9 rfl) ?_
          refine x_ifnull (pc := 18) (tgt := 23) C (d_D_hindranceToRead 10 rfl) (by decide) (fun c7 => ?_) (fun i8 c7 => ?_)
          · rw [c7] at h; try rw [c7]
            dsimp only at h
            refine x_aload_n (pc := 23) C (d_D_hindranceToRead 13 rfl) rfl 1 rfl ?_
            refine x_getR (pc := 24) (t := 3) C fl_D_246 rfl rfl (d_D_hindranceToRead 14 rfl) ?_
            refine x_ifnull (pc := 27) (tgt := 60) C (d_D_hindranceToRead 15 rfl) (by decide) (fun c9 => ?_) (fun i10 c9 => ?_)
            · rw [c9] at h; try rw [c9]
              dsimp only at h
              refine x_aload_n (pc := 60) C (d_D_hindranceToRead 29 rfl) rfl 0 rfl ?_
              refine x_getR (pc := 61) (t := 5) C fl_D_36 rfl rfl (d_D_hindranceToRead 30 rfl) ?_
              cases c12 : st.2.2.1 0 x0 4 with
              | none => rw [c12] at h; cases h
              | some i11 =>
                rw [c12] at h
                dsimp only at h
                refine x_getI (pc := 64) C fl_D_169 rfl (d_D_hindranceToRead 31 rfl) ?_
                refine x_if_ne (pc := 67) (tgt := 75) C (d_D_hindranceToRead 32 rfl) (by decide) (fun c13 => ?_) (fun c13 => ?_)
                · rw [if_neg c13] at h
                  refine x_iconst (pc := 75) (v := 0) C (by decide) (d_D_hindranceToRead 35 rfl) ?_
                  cases h
                  exact x_iret (pc := 76) C hret rfl (Nat.zero_le _) (Nat.zero_le _) (d_D_hindranceToRead 36 rfl)
                · rw [if_pos c13] at h
                  refine x_bipush (pc := 70) (v := (-6)) C (by decide) (d_D_hindranceToRead 33 rfl) ?_
                  refine x_goto (pc := 72) (tgt := 76) C (d_D_hindranceToRead 34 rfl) (by decide) ?_
                  cases h
                  exact x_iret (pc := 76) C hret rfl (Nat.zero_le _) (Nat.zero_le _) (d_D_hindranceToRead 36 rfl)
            · rw [c9] at h; try rw [c9]
              dsimp only at h
              refine x_aload_n (pc := 30) C (d_D_hindranceToRead 16 rfl) rfl 1 rfl ?_
              refine x_getR (pc := 31) (t := 3) C fl_D_246 rfl rfl (d_D_hindranceToRead 17 rfl) ?_
              rw [c9]
              refine x_getR (pc := 34) (t := 5) C fl_D_250 rfl rfl (d_D_hindranceToRead 18 rfl) ?_
              cases c15 : st.2.2.1 3 i10 0 with
              | none => rw [c15] at h; cases h
              | some i14 =>
                rw [c15] at h
                dsimp only at h
                refine x_getI (pc := 37) C fl_D_169 rfl (d_D_hindranceToRead 19 rfl) ?_
                refine x_if_ne (pc := 40) (tgt := 58) C (d_D_hindranceToRead 20 rfl) (by decide) (fun c16 => ?_) (fun c16 => ?_)
                · rw [if_neg c16] at h
                  refine x_iconst (pc := 58) (v := 0) C (by decide) (d_D_hindranceToRead 27 rfl) ?_
                  cases h
                  exact x_iret (pc := 59) C hret rfl (Nat.zero_le _) (Nat.zero_le _) (d_D_hindranceToRead 28 rfl)
                · rw [if_pos c16] at h
                  refine x_aload_n (pc := 43) C (d_D_hindranceToRead 21 rfl) rfl 1 rfl ?_
                  refine x_getR (pc := 44) (t := 3) C fl_D_246 rfl rfl (d_D_hindranceToRead 22 rfl) ?_
                  rw [c9]
                  refine x_getI (pc := 47) C fl_D_253 rfl (d_D_hindranceToRead 23 rfl) ?_
                  refine x_if_le (pc := 50) (tgt := 58) C (d_D_hindranceToRead 24 rfl) (by decide) (fun c17 => ?_) (fun c17 => ?_)
                  · rw [if_pos c17] at h
                    refine x_iconst (pc := 58) (v := 0) C (by decide) (d_D_hindranceToRead 27 rfl) ?_
                    cases h
                    exact x_iret (pc := 59) C hret rfl (Nat.zero_le _) (Nat.zero_le _) (d_D_hindranceToRead 28 rfl)
                  · rw [if_neg c17] at h
                    refine x_bipush (pc := 53) (v := (-6)) C (by decide) (d_D_hindranceToRead 25 rfl) ?_
                    refine x_goto (pc := 55) (tgt := 59) C (d_D_hindranceToRead 26 rfl) (by decide) ?_
                    cases h
                    exact x_iret (pc := 59) C hret rfl (Nat.zero_le _) (Nat.zero_le _) (d_D_hindranceToRead 28 rfl)
          · rw [c7] at h; try rw [c7]
            dsimp only at h
            refine x_iconst (pc := 21) (v := 0) C (by decide) (d_D_hindranceToRead 11 rfl) ?_
            cases h
            exact x_iret (pc := 22) C hret rfl (Nat.zero_le _) (Nat.zero_le _) (d_D_hindranceToRead 12 rfl)
      · rw [if_pos c5] at h
        refine x_iconst (pc := 8) (v := (-1)) C (by decide) (d_D_hindranceToRead 4 rfl) ?_
        cases h
        exact x_iret (pc := 9) C hret rfl (Nat.zero_le _) (Nat.zero_le _) (d_D_hindranceToRead 5 rfl)
def f_D_placeToWrite (x0 : Option Nat) (x1 : Option Nat) (st : XS) : Option Int32 :=
  match x0 with
  | none => none
  | some i1 =>
    match f_O_has i1 4 st with
    | none => none
    | some v4 =>
      if v4 = 0 then
        some (st.1 2 i1 2)
      else
        match x1 with
        | none => none
        | some i6 =>
          some (st.1 4 i6 1)
set_option maxRecDepth 100000 in
set_option maxHeartbeats 4000000 in
theorem m_D_placeToWrite (l : Launch) {x0 : Option Nat} {x1 : Option Nat} {st : XS} {r : Int32} (h : f_D_placeToWrite x0 x1 st = some r) : x_M l M_D_placeToWrite rm_D_placeToWrite [xR 2 (x0), xR 4 (x1)] st (.inl (some (xI r))) st 0 0 := by
  refine x_enter (Nat.le_of_ble_eq_true rfl) ?_
  intro p e s m below meth c D cA g args B C
  have hret := B.2.2.2.2.2.2.2.2.1
  have hmn := B.2.2.2.2.2.2.2.1
  have hex := B.2.2.2.2.2.2.2.2.2.1
  unfold f_D_placeToWrite at h
  refine x_aload_n (pc := 0) C (d_D_placeToWrite 0 rfl) rfl 0 rfl ?_
  refine x_iconst (pc := 1) (v := 4) C (by decide) (d_D_placeToWrite 1 rfl) ?_
  cases c2 : x0 with
  | none => rw [c2] at h; cases h
  | some i1 =>
    rw [c2] at h
    dsimp only at h
    cases c3 : f_O_has i1 4 st with
    | none => rw [c3] at h; cases h
    | some v4 =>
      rw [c3] at h
      dsimp only at h
      refine x_callV (mc := 0) (ms := 0) (pc := 2) (bL := [xI (4)]) (K := []) C cs_D_242 (m_O_has l c3 : x_M l _ _ _ _ (.inl (some (xI v4))) _ 0 0) (by decide) rfl (Nat.le_of_ble_eq_true rfl) (d_D_placeToWrite 2 rfl) ?_
      refine x_if_eq (pc := 5) (tgt := 15) C (d_D_placeToWrite 3 rfl) (by decide) (fun c5 => ?_) (fun c5 => ?_)
      · rw [if_pos c5] at h
        refine x_aload_n (pc := 15) C (d_D_placeToWrite 7 rfl) rfl 0 rfl ?_
        refine x_getI (pc := 16) C fl_D_162 rfl (d_D_placeToWrite 8 rfl) ?_
        cases h
        exact x_iret (pc := 19) C hret rfl (Nat.zero_le _) (Nat.zero_le _) (d_D_placeToWrite 9 rfl)
      · rw [if_neg c5] at h
        refine x_aload_n (pc := 8) C (d_D_placeToWrite 4 rfl) rfl 1 rfl ?_
        cases c7 : x1 with
        | none => rw [c7] at h; cases h
        | some i6 =>
          rw [c7] at h
          dsimp only at h
          refine x_getI (pc := 9) C fl_D_115 rfl (d_D_placeToWrite 5 rfl) ?_
          refine x_goto (pc := 12) (tgt := 19) C (d_D_placeToWrite 6 rfl) (by decide) ?_
          cases h
          exact x_iret (pc := 19) C hret rfl (Nat.zero_le _) (Nat.zero_le _) (d_D_placeToWrite 9 rfl)
def f_D_hindranceToWrite (x0 : Option Nat) (x1 : Int32) (st : XS) : Option Int32 :=
  match x0 with
  | none => none
  | some i1 =>
    match f_O_has i1 2 st with
    | none => none
    | some v4 =>
      if v4 = 0 then
        some ((-1))
      else
        match st.2.2.1 2 i1 0 with
        | none =>
          match st.2.2.1 2 i1 1 with
          | none =>
            some (0)
          | some i9 =>
            match f_D_placeToWrite (some (i1)) (some (i9)) st with
            | none => none
            | some v11 =>
              if (v11 + x1) ≤ 64 then
                some (0)
              else
                some ((-7))
        | some i7 =>
          if (st.1 3 i7 1) = 0 then
            some ((-5))
          else
            match st.2.2.1 3 i7 0 with
            | none => none
            | some i15 =>
              if ((st.1 5 i15 2) + x1) ≤ 32 then
                some (0)
              else
                some ((-6))
set_option maxRecDepth 100000 in
set_option maxHeartbeats 4000000 in
theorem m_D_hindranceToWrite (l : Launch) {x0 : Option Nat} {x1 : Int32} {st : XS} {r : Int32} (h : f_D_hindranceToWrite x0 x1 st = some r) : x_M l M_D_hindranceToWrite rm_D_hindranceToWrite [xR 2 (x0), xI (x1)] st (.inl (some (xI r))) st 0 0 := by
  refine x_enter (Nat.le_of_ble_eq_true rfl) ?_
  intro p e s m below meth c D cA g args B C
  have hret := B.2.2.2.2.2.2.2.2.1
  have hmn := B.2.2.2.2.2.2.2.1
  have hex := B.2.2.2.2.2.2.2.2.2.1
  unfold f_D_hindranceToWrite at h
  refine x_aload_n (pc := 0) C (d_D_hindranceToWrite 0 rfl) rfl 0 rfl ?_
  refine x_iconst (pc := 1) (v := 2) C (by decide) (d_D_hindranceToWrite 1 rfl) ?_
  cases c2 : x0 with
  | none => rw [c2] at h; cases h
  | some i1 =>
    rw [c2] at h
    dsimp only at h
    cases c3 : f_O_has i1 2 st with
    | none => rw [c3] at h; cases h
    | some v4 =>
      rw [c3] at h
      dsimp only at h
      refine x_callV (mc := 0) (ms := 0) (pc := 2) (bL := [xI (2)]) (K := []) C cs_D_242 (m_O_has l c3 : x_M l _ _ _ _ (.inl (some (xI v4))) _ 0 0) (by decide) rfl (Nat.le_of_ble_eq_true rfl) (d_D_hindranceToWrite 2 rfl) ?_
      refine x_if_ne (pc := 5) (tgt := 10) C (d_D_hindranceToWrite 3 rfl) (by decide) (fun c5 => ?_) (fun c5 => ?_)
      · rw [if_neg c5] at h
        refine x_aload_n (pc := 10) C (d_D_hindranceToWrite 6 rfl) rfl 0 rfl ?_
        refine x_getR (pc := 11) (t := 3) C fl_D_246 rfl rfl (d_D_hindranceToWrite 7 rfl) ?_
        refine x_ifnull (pc := 14) (tgt := 54) C (d_D_hindranceToWrite 8 rfl) (by decide) (fun c6 => ?_) (fun i7 c6 => ?_)
        · rw [c6] at h; try rw [c6]
          dsimp only at h
          refine x_aload_n (pc := 54) C (d_D_hindranceToWrite 27 rfl) rfl 0 rfl ?_
          refine x_getR (pc := 55) (t := 4) C fl_D_158 rfl rfl (d_D_hindranceToWrite 28 rfl) ?_
          refine x_ifnull (pc := 58) (tgt := 83) C (d_D_hindranceToWrite 29 rfl) (by decide) (fun c8 => ?_) (fun i9 c8 => ?_)
          · rw [c8] at h; try rw [c8]
            dsimp only at h
            refine x_iconst (pc := 83) (v := 0) C (by decide) (d_D_hindranceToWrite 42 rfl) ?_
            cases h
            exact x_iret (pc := 84) C hret rfl (Nat.zero_le _) (Nat.zero_le _) (d_D_hindranceToWrite 43 rfl)
          · rw [c8] at h; try rw [c8]
            dsimp only at h
            refine x_aload_n (pc := 61) C (d_D_hindranceToWrite 30 rfl) rfl 0 rfl ?_
            refine x_aload_n (pc := 62) C (d_D_hindranceToWrite 31 rfl) rfl 0 rfl ?_
            refine x_getR (pc := 63) (t := 4) C fl_D_158 rfl rfl (d_D_hindranceToWrite 32 rfl) ?_
            rw [c8]
            cases c10 : f_D_placeToWrite (some (i1)) (some (i9)) st with
            | none => rw [c10] at h; cases h
            | some v11 =>
              rw [c10] at h
              dsimp only at h
              refine x_callS (mc := 0) (ms := 0) (pc := 66) (aL := [xR 2 (some (i1)), xR 4 (some (i9))]) (K := []) C cs_D_259 (m_D_placeToWrite l c10 : x_M l _ _ _ _ (.inl (some (xI v11))) _ 0 0) (by decide) rfl (Nat.le_of_ble_eq_true rfl) (d_D_hindranceToWrite 33 rfl) ?_
              refine x_iload_n (pc := 69) C (d_D_hindranceToWrite 34 rfl) rfl 1 rfl ?_
              refine x_iadd (pc := 70) C (d_D_hindranceToWrite 35 rfl) ?_
              refine x_bipush (pc := 71) (v := 64) C (by decide) (d_D_hindranceToWrite 36 rfl) ?_
              refine x_icmp_le (pc := 73) (tgt := 81) C (d_D_hindranceToWrite 37 rfl) (by decide) (fun c12 => ?_) (fun c12 => ?_)
              · rw [if_pos c12] at h
                refine x_iconst (pc := 81) (v := 0) C (by decide) (d_D_hindranceToWrite 40 rfl) ?_
                cases h
                exact x_iret (pc := 82) C hret rfl (Nat.zero_le _) (Nat.zero_le _) (d_D_hindranceToWrite 41 rfl)
              · rw [if_neg c12] at h
                refine x_bipush (pc := 76) (v := (-7)) C (by decide) (d_D_hindranceToWrite 38 rfl) ?_
                refine x_goto (pc := 78) (tgt := 82) C (d_D_hindranceToWrite 39 rfl) (by decide) ?_
                cases h
                exact x_iret (pc := 82) C hret rfl (Nat.zero_le _) (Nat.zero_le _) (d_D_hindranceToWrite 41 rfl)
        · rw [c6] at h; try rw [c6]
          dsimp only at h
          refine x_aload_n (pc := 17) C (d_D_hindranceToWrite 9 rfl) rfl 0 rfl ?_
          refine x_getR (pc := 18) (t := 3) C fl_D_246 rfl rfl (d_D_hindranceToWrite 10 rfl) ?_
          rw [c6]
          refine x_getI (pc := 21) C fl_D_256 rfl (d_D_hindranceToWrite 11 rfl) ?_
          refine x_if_ne (pc := 24) (tgt := 30) C (d_D_hindranceToWrite 12 rfl) (by decide) (fun c14 => ?_) (fun c14 => ?_)
          · rw [if_neg c14] at h
            refine x_aload_n (pc := 30) C (d_D_hindranceToWrite 15 rfl) rfl 0 rfl ?_
            refine x_getR (pc := 31) (t := 3) C fl_D_246 rfl rfl (d_D_hindranceToWrite 16 rfl) ?_
            rw [c6]
            refine x_getR (pc := 34) (t := 5) C fl_D_250 rfl rfl (d_D_hindranceToWrite 17 rfl) ?_
            cases c16 : st.2.2.1 3 i7 0 with
            | none => rw [c16] at h; cases h
            | some i15 =>
              rw [c16] at h
              dsimp only at h
              refine x_getI (pc := 37) C fl_D_169 rfl (d_D_hindranceToWrite 18 rfl) ?_
              refine x_iload_n (pc := 40) C (d_D_hindranceToWrite 19 rfl) rfl 1 rfl ?_
              refine x_iadd (pc := 41) C (d_D_hindranceToWrite 20 rfl) ?_
              refine x_bipush (pc := 42) (v := 32) C (by decide) (d_D_hindranceToWrite 21 rfl) ?_
              refine x_icmp_le (pc := 44) (tgt := 52) C (d_D_hindranceToWrite 22 rfl) (by decide) (fun c17 => ?_) (fun c17 => ?_)
              · rw [if_pos c17] at h
                refine x_iconst (pc := 52) (v := 0) C (by decide) (d_D_hindranceToWrite 25 rfl) ?_
                cases h
                exact x_iret (pc := 53) C hret rfl (Nat.zero_le _) (Nat.zero_le _) (d_D_hindranceToWrite 26 rfl)
              · rw [if_neg c17] at h
                refine x_bipush (pc := 47) (v := (-6)) C (by decide) (d_D_hindranceToWrite 23 rfl) ?_
                refine x_goto (pc := 49) (tgt := 53) C (d_D_hindranceToWrite 24 rfl) (by decide) ?_
                cases h
                exact x_iret (pc := 53) C hret rfl (Nat.zero_le _) (Nat.zero_le _) (d_D_hindranceToWrite 26 rfl)
          · rw [if_pos c14] at h
            refine x_bipush (pc := 27) (v := (-5)) C (by decide) (d_D_hindranceToWrite 13 rfl) ?_
            cases h
            exact x_iret (pc := 29) C hret rfl (Nat.zero_le _) (Nat.zero_le _) (d_D_hindranceToWrite 14 rfl)
      · rw [if_pos c5] at h
        refine x_iconst (pc := 8) (v := (-1)) C (by decide) (d_D_hindranceToWrite 4 rfl) ?_
        cases h
        exact x_iret (pc := 9) C hret rfl (Nat.zero_le _) (Nat.zero_le _) (d_D_hindranceToWrite 5 rfl)
def f_D_mustWait (x0 : Nat) (x1 : Option Nat) (st : XS) : Option Int32 :=
  match x1 with
  | none => none
  | some i1 =>
    match f_P_openingAt i1 (st.1 1 i1 2) st with
    | none => none
    | some v4 =>
      match v4 with
      | none =>
        some (0)
      | some i6 =>
        if (st.1 1 i1 1) = 2 then
          match f_D_hindranceToRead x0 (some (i6)) (st.1 1 i1 3) st with
          | none => none
          | some v13 =>
            if v13 = ((-6)) then
              some (1)
            else
              some (0)
        else
          match f_D_hindranceToWrite (some (i6)) (st.1 1 i1 3) st with
          | none => none
          | some v9 =>
            if v9 = ((-6)) then
              some (1)
            else
              some (0)
set_option maxRecDepth 100000 in
set_option maxHeartbeats 4000000 in
theorem m_D_mustWait (l : Launch) {x0 : Nat} {x1 : Option Nat} {st : XS} {r : Int32} (h : f_D_mustWait x0 x1 st = some r) : x_M l M_D_mustWait rm_D_mustWait [xR 0 (some (x0)), xR 1 (x1)] st (.inl (some (xI r))) st 0 0 := by
  refine x_enter (Nat.le_of_ble_eq_true rfl) ?_
  intro p e s m below meth c D cA g args B C
  have hret := B.2.2.2.2.2.2.2.2.1
  have hmn := B.2.2.2.2.2.2.2.1
  have hex := B.2.2.2.2.2.2.2.2.2.1
  unfold f_D_mustWait at h
  refine x_aload_n (pc := 0) C (d_D_mustWait 0 rfl) rfl 1 rfl ?_
  refine x_aload_n (pc := 1) C (d_D_mustWait 1 rfl) rfl 1 rfl ?_
  cases c2 : x1 with
  | none => rw [c2] at h; cases h
  | some i1 =>
    rw [c2] at h
    dsimp only at h
    refine x_getI (pc := 2) C fl_D_181 rfl (d_D_mustWait 2 rfl) ?_
    cases c3 : f_P_openingAt i1 (st.1 1 i1 2) st with
    | none => rw [c3] at h; cases h
    | some v4 =>
      rw [c3] at h
      dsimp only at h
      refine x_callV (mc := 0) (ms := 0) (pc := 5) (bL := [xI (st.1 1 i1 2)]) (K := []) C cs_D_73 (m_P_openingAt l c3 : x_M l _ _ _ _ (.inl (some (xR 2 v4))) _ 0 0) (by decide) rfl (Nat.le_of_ble_eq_true rfl) (d_D_mustWait 3 rfl) ?_
      refine x_astore_n (pc := 8) (L2 := [(2, xR 2 (v4)), (0, xR 0 (some (x0))), (1, xR 1 (some (i1)))]) C (d_D_mustWait 4 rfl) rfl (by decide) rfl ?_
      refine x_aload_n (pc := 9) C (d_D_mustWait 5 rfl) rfl 0 rfl ?_
      refine x_ifnonnull (pc := 10) (tgt := 15) C (d_D_mustWait 6 rfl) (by decide) (fun i6 c5 => ?_) (fun c5 => ?_)
      · rw [c5] at h; try rw [c5]
        dsimp only at h
        refine x_aload_n (pc := 15) C (d_D_mustWait 9 rfl) rfl 2 rfl ?_
        refine x_getI (pc := 16) C fl_D_178 rfl (d_D_mustWait 10 rfl) ?_
        refine x_iconst (pc := 19) (v := 2) C (by decide) (d_D_mustWait 11 rfl) ?_
        refine x_icmp_ne (pc := 20) (tgt := 35) C (d_D_mustWait 12 rfl) (by decide) (fun c7 => ?_) (fun c7 => ?_)
        · rw [if_neg c7] at h
          refine x_aload_n (pc := 35) C (d_D_mustWait 19 rfl) rfl 0 rfl ?_
          refine x_aload_n (pc := 36) C (d_D_mustWait 20 rfl) rfl 2 rfl ?_
          refine x_getI (pc := 37) C fl_D_184 rfl (d_D_mustWait 21 rfl) ?_
          cases c8 : f_D_hindranceToWrite (some (i6)) (st.1 1 i1 3) st with
          | none => rw [c8] at h; cases h
          | some v9 =>
            rw [c8] at h
            dsimp only at h
            refine x_callS (mc := 0) (ms := 0) (pc := 40) (aL := [xR 2 (some (i6)), xI (st.1 1 i1 3)]) (K := []) C cs_D_141 (m_D_hindranceToWrite l c8 : x_M l _ _ _ _ (.inl (some (xI v9))) _ 0 0) (by decide) rfl (Nat.le_of_ble_eq_true rfl) (d_D_mustWait 22 rfl) ?_
            refine x_istore_n (pc := 43) (L2 := [(3, xI (v9)), (2, xR 2 (some (i6))), (0, xR 0 (some (x0))), (1, xR 1 (some (i1)))]) C (d_D_mustWait 23 rfl) rfl (by decide) rfl ?_
            refine x_iload_n (pc := 44) C (d_D_mustWait 24 rfl) rfl 0 rfl ?_
            refine x_bipush (pc := 45) (v := (-6)) C (by decide) (d_D_mustWait 25 rfl) ?_
            refine x_icmp_ne (pc := 47) (tgt := 54) C (d_D_mustWait 26 rfl) (by decide) (fun c10 => ?_) (fun c10 => ?_)
            · rw [if_neg c10] at h
              refine x_iconst (pc := 54) (v := 0) C (by decide) (d_D_mustWait 29 rfl) ?_
              cases h
              exact x_iret (pc := 55) C hret rfl (Nat.zero_le _) (Nat.zero_le _) (d_D_mustWait 30 rfl)
            · rw [if_pos c10] at h
              refine x_iconst (pc := 50) (v := 1) C (by decide) (d_D_mustWait 27 rfl) ?_
              refine x_goto (pc := 51) (tgt := 55) C (d_D_mustWait 28 rfl) (by decide) ?_
              cases h
              exact x_iret (pc := 55) C hret rfl (Nat.zero_le _) (Nat.zero_le _) (d_D_mustWait 30 rfl)
        · rw [if_pos c7] at h
          refine x_aload_n (pc := 23) C (d_D_mustWait 13 rfl) rfl 1 rfl ?_
          refine x_aload_n (pc := 24) C (d_D_mustWait 14 rfl) rfl 0 rfl ?_
          refine x_aload_n (pc := 25) C (d_D_mustWait 15 rfl) rfl 2 rfl ?_
          refine x_getI (pc := 26) C fl_D_184 rfl (d_D_mustWait 16 rfl) ?_
          cases c12 : f_D_hindranceToRead x0 (some (i6)) (st.1 1 i1 3) st with
          | none => rw [c12] at h; cases h
          | some v13 =>
            rw [c12] at h
            dsimp only at h
            refine x_callV (mc := 0) (ms := 0) (pc := 29) (bL := [xR 2 (some (i6)), xI (st.1 1 i1 3)]) (K := []) C cs_D_125 (m_D_hindranceToRead l c12 : x_M l _ _ _ _ (.inl (some (xI v13))) _ 0 0) (by decide) rfl (Nat.le_of_ble_eq_true rfl) (d_D_mustWait 17 rfl) ?_
            refine x_goto (pc := 32) (tgt := 43) C (d_D_mustWait 18 rfl) (by decide) ?_
            refine x_istore_n (pc := 43) (L2 := [(3, xI (v13)), (2, xR 2 (some (i6))), (0, xR 0 (some (x0))), (1, xR 1 (some (i1)))]) C (d_D_mustWait 23 rfl) rfl (by decide) rfl ?_
            refine x_iload_n (pc := 44) C (d_D_mustWait 24 rfl) rfl 0 rfl ?_
            refine x_bipush (pc := 45) (v := (-6)) C (by decide) (d_D_mustWait 25 rfl) ?_
            refine x_icmp_ne (pc := 47) (tgt := 54) C (d_D_mustWait 26 rfl) (by decide) (fun c14 => ?_) (fun c14 => ?_)
            · rw [if_neg c14] at h
              refine x_iconst (pc := 54) (v := 0) C (by decide) (d_D_mustWait 29 rfl) ?_
              cases h
              exact x_iret (pc := 55) C hret rfl (Nat.zero_le _) (Nat.zero_le _) (d_D_mustWait 30 rfl)
            · rw [if_pos c14] at h
              refine x_iconst (pc := 50) (v := 1) C (by decide) (d_D_mustWait 27 rfl) ?_
              refine x_goto (pc := 51) (tgt := 55) C (d_D_mustWait 28 rfl) (by decide) ?_
              cases h
              exact x_iret (pc := 55) C hret rfl (Nat.zero_le _) (Nat.zero_le _) (d_D_mustWait 30 rfl)
      · rw [c5] at h; try rw [c5]
        dsimp only at h
        refine x_iconst (pc := 13) (v := 0) C (by decide) (d_D_mustWait 7 rfl) ?_
        cases h
        exact x_iret (pc := 14) C hret rfl (Nat.zero_le _) (Nat.zero_le _) (d_D_mustWait 8 rfl)
def f_D_wakeAll_13  : Nat → Nat → Int32 → Option Nat → Int32 → Int32 → XS → Option (Int32 × XS)
  | 0, _, _, _, _, _, _ => none
  | n + 1, x0, x1, x2, x3, x4, st =>
    if x3 ≤ x4 then
      some (x1, st)
    else
      match x2 with
      | none => none
      | some i2 =>
        if x_in x4 8 then
          match st.2.2.1 6 i2 x4.toNatClampNeg with
          | none => none
          | some i5 =>
            match f_P_isWaiting i5 st with
            | none => none
            | some v8 =>
              if v8 = 0 then
                f_D_wakeAll_13 n x0 x1 (some (i2)) x3 (x4 + 1) st
              else
                match f_D_mustWait x0 (some (i5)) st with
                | none => none
                | some v11 =>
                  if v11 = 0 then
                    match f_P_beReady i5 st with
                    | none => none
                    | some (_, st15) =>
                      f_D_wakeAll_13 n x0 (x1 + 1) (some (i2)) x3 (x4 + 1) st15
                  else
                    f_D_wakeAll_13 n x0 x1 (some (i2)) x3 (x4 + 1) st
        else none
set_option maxRecDepth 100000 in
set_option maxHeartbeats 4000000 in
theorem v_D_wakeAll_13 {p : Program} {l : Launch} {e : Env} {s : State} {m : MethodId} {args : Array Value} {below : List Frame} {meth : Method} {c : Code} {D : va_G} {cA : Nat → ClassId} {g0 : Nat → Nat → Nat} {n0 : Nat → Nat} {r : Int32} {st2 : XS} (C : x_C p e rm_D_wakeAll s m args meth c D cA (x_A g0 n0 s.heap.size) M_D_wakeAll.2.1 M_D_wakeAll.1 M_D_wakeAll.2.2.1) (hret : meth.sig.returnType = M_D_wakeAll.2.2.2.1) (hmn : meth.name = M_D_wakeAll.2.2.2.2.2) (hex : c.exceptionTable.toList.map (fun h => (h.startPc, h.endPc, h.handlerPc, h.catchType)) = M_D_wakeAll.2.2.2.2.1)  : ∀ (n : Nat) (x0 : Nat) (x1 : Int32) (x2 : Option Nat) (x3 : Int32) (x4 : Int32) (st : XS), f_D_wakeAll_13 n x0 x1 x2 x3 x4 st = some (r, st2) → x_V p l e rm_D_wakeAll s m args below meth c D cA (x_A g0 n0 s.heap.size) M_D_wakeAll.2.2.1 g0 n0 (x_MQ D cA g0 n0 below s 0 0 (.inl (some (xI r))) st2) 13 [(0, xR 0 (some (x0))), (1, xI (x1)), (2, xR 6 (x2)), (3, xI (x3)), (4, xI (x4))] [] st 0 0 := by
  intro n
  induction n with
  | zero => intro x0 x1 x2 x3 x4 st h; cases h
  | succ n ih =>
    intro x0 x1 x2 x3 x4 st h
    rw [f_D_wakeAll_13.eq_def] at h
    dsimp only at h
    refine x_iload (pc := 13) C (d_D_wakeAll 10 rfl) 4 rfl ?_
    refine x_iload_n (pc := 15) C (d_D_wakeAll 11 rfl) rfl 3 rfl ?_
    refine x_icmp_ge (pc := 16) (tgt := 56) C (d_D_wakeAll 12 rfl) (by decide) (fun c1 => ?_) (fun c1 => ?_)
    · rw [if_pos c1] at h
      refine x_iload_n (pc := 56) C (d_D_wakeAll 29 rfl) rfl 1 rfl ?_
      cases h
      exact x_iret (pc := 57) C hret rfl (Nat.zero_le _) (Nat.zero_le _) (d_D_wakeAll 30 rfl)
    · rw [if_neg c1] at h
      refine x_aload_n (pc := 19) C (d_D_wakeAll 13 rfl) rfl 2 rfl ?_
      refine x_iload (pc := 20) C (d_D_wakeAll 14 rfl) 4 rfl ?_
      cases c3 : x2 with
      | none => rw [c3] at h; cases h
      | some i2 =>
        rw [c3] at h
        dsimp only at h
        by_cases b4 : x_in x4 8
        · rw [if_pos b4] at h
          refine x_aald (pc := 22) C ar_6 b4 (d_D_wakeAll 15 rfl) ?_
          refine x_astore (pc := 23) (L2 := [(5, xR 1 (st.2.2.1 6 i2 x4.toNatClampNeg)), (0, xR 0 (some (x0))), (1, xI (x1)), (2, xR 6 (some (i2))), (3, xI (x3)), (4, xI (x4))]) C (d_D_wakeAll 16 rfl) (by decide) rfl ?_
          refine x_aload (pc := 25) C (d_D_wakeAll 17 rfl) 0 rfl ?_
          cases c6 : st.2.2.1 6 i2 x4.toNatClampNeg with
          | none => rw [c6] at h; cases h
          | some i5 =>
            rw [c6] at h
            dsimp only at h
            cases c7 : f_P_isWaiting i5 st with
            | none => rw [c7] at h; cases h
            | some v8 =>
              rw [c7] at h
              dsimp only at h
              refine x_callV (mc := 0) (ms := 0) (pc := 27) (bL := []) (K := []) C cs_D_301 (m_P_isWaiting l c7 : x_M l _ _ _ _ (.inl (some (xI v8))) _ 0 0) (by decide) rfl (Nat.le_of_ble_eq_true rfl) (d_D_wakeAll 18 rfl) ?_
              refine x_if_eq (pc := 30) (tgt := 50) C (d_D_wakeAll 19 rfl) (by decide) (fun c9 => ?_) (fun c9 => ?_)
              · rw [if_pos c9] at h
                refine x_iinc (pc := 50) (v := x4 + 1) (L2 := [(4, xI (x4 + 1)), (5, xR 1 (some (i5))), (0, xR 0 (some (x0))), (1, xI (x1)), (2, xR 6 (some (i2))), (3, xI (x3))]) C (d_D_wakeAll 27 rfl) 5 rfl rfl (by decide) rfl ?_
                refine x_goto (pc := 53) (tgt := 13) C (d_D_wakeAll 28 rfl) (by decide) ?_
                exact x_sub [2, 3, 4, 5, 0] rfl (ih _ _ _ _ _ _ h)
              · rw [if_neg c9] at h
                refine x_aload_n (pc := 33) C (d_D_wakeAll 20 rfl) rfl 1 rfl ?_
                refine x_aload (pc := 34) C (d_D_wakeAll 21 rfl) 0 rfl ?_
                cases c10 : f_D_mustWait x0 (some (i5)) st with
                | none => rw [c10] at h; cases h
                | some v11 =>
                  rw [c10] at h
                  dsimp only at h
                  refine x_callV (mc := 0) (ms := 0) (pc := 36) (bL := [xR 1 (some (i5))]) (K := []) C cs_D_304 (m_D_mustWait l c10 : x_M l _ _ _ _ (.inl (some (xI v11))) _ 0 0) (by decide) rfl (Nat.le_of_ble_eq_true rfl) (d_D_wakeAll 22 rfl) ?_
                  refine x_if_ne (pc := 39) (tgt := 50) C (d_D_wakeAll 23 rfl) (by decide) (fun c12 => ?_) (fun c12 => ?_)
                  · rw [if_neg c12] at h
                    refine x_iinc (pc := 50) (v := x4 + 1) (L2 := [(4, xI (x4 + 1)), (5, xR 1 (some (i5))), (0, xR 0 (some (x0))), (1, xI (x1)), (2, xR 6 (some (i2))), (3, xI (x3))]) C (d_D_wakeAll 27 rfl) 5 rfl rfl (by decide) rfl ?_
                    refine x_goto (pc := 53) (tgt := 13) C (d_D_wakeAll 28 rfl) (by decide) ?_
                    exact x_sub [2, 3, 4, 5, 0] rfl (ih _ _ _ _ _ _ h)
                  · rw [if_pos c12] at h
                    refine x_aload (pc := 42) C (d_D_wakeAll 24 rfl) 0 rfl ?_
                    cases c13 : f_P_beReady i5 st with
                    | none => rw [c13] at h; cases h
                    | some w16 =>
                      obtain ⟨v14, st15⟩ := w16
                      rw [c13] at h
                      dsimp only at h
                      refine x_callV (mc := 0) (ms := 0) (pc := 44) (bL := []) (K := []) C cs_D_308 (m_P_beReady l c13 : x_M l _ _ _ _ (.inl none) _ 0 0) (by decide) rfl (Nat.le_of_ble_eq_true rfl) (d_D_wakeAll 25 rfl) ?_
                      refine x_iinc (pc := 47) (v := x1 + 1) (L2 := [(1, xI (x1 + 1)), (5, xR 1 (some (i5))), (0, xR 0 (some (x0))), (2, xR 6 (some (i2))), (3, xI (x3)), (4, xI (x4))]) C (d_D_wakeAll 26 rfl) 2 rfl rfl (by decide) rfl ?_
                      refine x_iinc (pc := 50) (v := x4 + 1) (L2 := [(4, xI (x4 + 1)), (1, xI (x1 + 1)), (5, xR 1 (some (i5))), (0, xR 0 (some (x0))), (2, xR 6 (some (i2))), (3, xI (x3))]) C (d_D_wakeAll 27 rfl) 5 rfl rfl (by decide) rfl ?_
                      refine x_goto (pc := 53) (tgt := 13) C (d_D_wakeAll 28 rfl) (by decide) ?_
                      exact x_sub [3, 1, 4, 5, 0] rfl (ih _ _ _ _ _ _ h)
        · rw [if_neg b4] at h; cases h
def f_D_wakeAll (x0 : Nat) (st : XS) : Option (Int32 × XS) :=
  match st.2.2.1 0 x0 0 with
  | none => none
  | some i19 =>
    f_D_wakeAll_13 100 x0 0 (some (i19)) 8 0 st
set_option maxRecDepth 100000 in
set_option maxHeartbeats 4000000 in
theorem m_D_wakeAll (l : Launch) {x0 : Nat} {st : XS} {r : Int32} {st2 : XS} (h : f_D_wakeAll x0 st = some (r, st2)) : x_M l M_D_wakeAll rm_D_wakeAll [xR 0 (some (x0))] st (.inl (some (xI r))) st2 0 0 := by
  refine x_enter (Nat.le_of_ble_eq_true rfl) ?_
  intro p e s m below meth c D cA g args B C
  have hret := B.2.2.2.2.2.2.2.2.1
  have hmn := B.2.2.2.2.2.2.2.1
  have hex := B.2.2.2.2.2.2.2.2.2.1
  unfold f_D_wakeAll at h
  refine x_iconst (pc := 0) (v := 0) C (by decide) (d_D_wakeAll 0 rfl) ?_
  refine x_istore_n (pc := 1) (L2 := [(1, xI (0)), (0, xR 0 (some (x0)))]) C (d_D_wakeAll 1 rfl) rfl (by decide) rfl ?_
  refine x_aload_n (pc := 2) C (d_D_wakeAll 2 rfl) rfl 1 rfl ?_
  refine x_getR (pc := 3) (t := 6) C fl_D_11 rfl rfl (d_D_wakeAll 3 rfl) ?_
  refine x_astore_n (pc := 6) (L2 := [(2, xR 6 (st.2.2.1 0 x0 0)), (1, xI (0)), (0, xR 0 (some (x0)))]) C (d_D_wakeAll 4 rfl) rfl (by decide) rfl ?_
  refine x_aload_n (pc := 7) C (d_D_wakeAll 5 rfl) rfl 0 rfl ?_
  cases c20 : st.2.2.1 0 x0 0 with
  | none => rw [c20] at h; cases h
  | some i19 =>
    rw [c20] at h
    dsimp only at h
    refine x_alen (pc := 8) (v := 8) C ar_6 rfl (d_D_wakeAll 6 rfl) ?_
    refine x_istore_n (pc := 9) (L2 := [(3, xI (8)), (2, xR 6 (some (i19))), (1, xI (0)), (0, xR 0 (some (x0)))]) C (d_D_wakeAll 7 rfl) rfl (by decide) rfl ?_
    refine x_iconst (pc := 10) (v := 0) C (by decide) (d_D_wakeAll 8 rfl) ?_
    refine x_istore (pc := 11) (L2 := [(4, xI (0)), (3, xI (8)), (2, xR 6 (some (i19))), (1, xI (0)), (0, xR 0 (some (x0)))]) C (d_D_wakeAll 9 rfl) (by decide) rfl ?_
    exact x_sub [4, 3, 2, 1, 0] rfl (v_D_wakeAll_13 C hret hmn hex 100 _ _ _ _ _ _ h)
def f_D_exit (x0 : Nat) (x1 : Int32) (st : XS) : Option ((Int32 ⊕ String) × XS) :=
  match f_D_procThere x0 x1 st with
  | none => none
  | some v2 =>
    match v2 with
    | none =>
      some (.inr "java/lang/IllegalStateException", st)
    | some i4 =>
      match f_P_beAbsent i4 st with
      | none => none
      | some (_, st7) =>
        match f_D_wakeAll x0 st7 with
        | none => none
        | some (v9, st10) =>
          some (.inl (v9), st10)
set_option maxRecDepth 100000 in
set_option maxHeartbeats 4000000 in
theorem m_D_exit (l : Launch) (hfl : l.flags = flags0) {x0 : Nat} {x1 : Int32} {st : XS} {r : Int32 ⊕ String} {st2 : XS} (h : f_D_exit x0 x1 st = some (r, st2)) : x_M l M_D_exit rm_D_exit [xR 0 (some (x0)), xI (x1)] st (xth (fun v => some (xI v)) r) st2 (xmc r) (xms r) := by
  refine x_enter (Nat.le_of_ble_eq_true rfl) ?_
  intro p e s m below meth c D cA g args B C
  have hret := B.2.2.2.2.2.2.2.2.1
  have hmn := B.2.2.2.2.2.2.2.1
  have hex := B.2.2.2.2.2.2.2.2.2.1
  unfold f_D_exit at h
  refine x_aload_n (pc := 0) C (d_D_exit 0 rfl) rfl 0 rfl ?_
  refine x_iload_n (pc := 1) C (d_D_exit 1 rfl) rfl 1 rfl ?_
  cases c1 : f_D_procThere x0 x1 st with
  | none => rw [c1] at h; cases h
  | some v2 =>
    rw [c1] at h
    dsimp only at h
    refine x_callV (mc := 0) (ms := 0) (pc := 2) (bL := [xI (x1)]) (K := []) C cs_D_77 (m_D_procThere l c1 : x_M l _ _ _ _ (.inl (some (xR 1 v2))) _ 0 0) (by decide) rfl (Nat.le_of_ble_eq_true rfl) (d_D_exit 2 rfl) ?_
    refine x_astore_n (pc := 5) (L2 := [(2, xR 1 (v2)), (0, xR 0 (some (x0))), (1, xI (x1))]) C (d_D_exit 3 rfl) rfl (by decide) rfl ?_
    refine x_aload_n (pc := 6) C (d_D_exit 4 rfl) rfl 0 rfl ?_
    refine x_ifnonnull (pc := 7) (tgt := 20) C (d_D_exit 5 rfl) (by decide) (fun i4 c3 => ?_) (fun c3 => ?_)
    · rw [c3] at h; try rw [c3]
      dsimp only at h
      refine x_aload_n (pc := 20) C (d_D_exit 11 rfl) rfl 0 rfl ?_
      cases c5 : f_P_beAbsent i4 st with
      | none => rw [c5] at h; cases h
      | some w12 =>
        obtain ⟨v6, st7⟩ := w12
        rw [c5] at h
        dsimp only at h
        refine x_callV (mc := 0) (ms := 0) (pc := 21) (bL := []) (K := []) C cs_D_87 (m_P_beAbsent l c5 : x_M l _ _ _ _ (.inl none) _ 0 0) (by decide) rfl (Nat.le_of_ble_eq_true rfl) (d_D_exit 12 rfl) ?_
        refine x_aload_n (pc := 24) C (d_D_exit 13 rfl) rfl 1 rfl ?_
        cases c8 : f_D_wakeAll x0 st7 with
        | none => rw [c8] at h; cases h
        | some w11 =>
          obtain ⟨v9, st10⟩ := w11
          rw [c8] at h
          dsimp only at h
          refine x_callV (mc := 0) (ms := 0) (pc := 25) (bL := []) (K := []) C cs_D_90 (m_D_wakeAll l c8 : x_M l _ _ _ _ (.inl (some (xI v9))) _ 0 0) (by decide) rfl (Nat.le_of_ble_eq_true rfl) (d_D_exit 14 rfl) ?_
          cases h
          exact x_iret (pc := 28) C hret rfl (Nat.zero_le _) (Nat.zero_le _) (d_D_exit 15 rfl)
    · rw [c3] at h; try rw [c3]
      dsimp only at h
      cases h
      exact x_throw (pc := 10) (tx := "no such process") C hfl w_340 w_341 w_11 (by decide +kernel) oa_D_84 (by decide +kernel) hex (Nat.le_of_ble_eq_true rfl) (by decide) (by decide) (Nat.le_refl 1) (Nat.le_refl 6) (by decide) (by decide) (d_D_exit 6 rfl) (d_D_exit 7 rfl) (d_D_exit 8 rfl) (d_D_exit 9 rfl) (d_D_exit 10 rfl)
def f_D_checkName (x0 : Int32) (st : XS) : Option (Unit ⊕ String) :=
  if x0 < 1 then
    some (.inr "java/lang/IllegalArgumentException")
  else
    if x0 ≤ 9 then
      some (.inl (()))
    else
      some (.inr "java/lang/IllegalArgumentException")
set_option maxRecDepth 100000 in
set_option maxHeartbeats 4000000 in
theorem m_D_checkName (l : Launch) (hfl : l.flags = flags0) {x0 : Int32} {st : XS} {r : Unit ⊕ String} (h : f_D_checkName x0 st = some r) : x_M l M_D_checkName rm_D_checkName [xI (x0)] st (xth (fun _ => none) r) st (xmc r) (xms r) := by
  refine x_enter (Nat.le_of_ble_eq_true rfl) ?_
  intro p e s m below meth c D cA g args B C
  have hret := B.2.2.2.2.2.2.2.2.1
  have hmn := B.2.2.2.2.2.2.2.1
  have hex := B.2.2.2.2.2.2.2.2.2.1
  unfold f_D_checkName at h
  refine x_iload_n (pc := 0) C (d_D_checkName 0 rfl) rfl 0 rfl ?_
  refine x_iconst (pc := 1) (v := 1) C (by decide) (d_D_checkName 1 rfl) ?_
  refine x_icmp_lt (pc := 2) (tgt := 11) C (d_D_checkName 2 rfl) (by decide) (fun c1 => ?_) (fun c1 => ?_)
  · rw [if_pos c1] at h
    cases h
    exact x_throw (pc := 11) (tx := "a name is 1 .. 9") C hfl w_449 w_450 w_12 (by decide +kernel) oa_D_155 (by decide +kernel) hex (Nat.le_of_ble_eq_true rfl) (by decide) (by decide) (Nat.le_refl 1) (Nat.le_refl 6) (by decide) (by decide) (d_D_checkName 6 rfl) (d_D_checkName 7 rfl) (d_D_checkName 8 rfl) (d_D_checkName 9 rfl) (d_D_checkName 10 rfl)
  · rw [if_neg c1] at h
    refine x_iload_n (pc := 5) C (d_D_checkName 3 rfl) rfl 0 rfl ?_
    refine x_bipush (pc := 6) (v := 9) C (by decide) (d_D_checkName 4 rfl) ?_
    refine x_icmp_le (pc := 8) (tgt := 21) C (d_D_checkName 5 rfl) (by decide) (fun c2 => ?_) (fun c2 => ?_)
    · rw [if_pos c2] at h
      cases h
      exact x_vret (pc := 21) C hret (Nat.zero_le _) (Nat.zero_le _) (d_D_checkName 11 rfl)
    · rw [if_neg c2] at h
      cases h
      exact x_throw (pc := 11) (tx := "a name is 1 .. 9") C hfl w_449 w_450 w_12 (by decide +kernel) oa_D_155 (by decide +kernel) hex (Nat.le_of_ble_eq_true rfl) (by decide) (by decide) (Nat.le_refl 1) (Nat.le_refl 6) (by decide) (by decide) (d_D_checkName 6 rfl) (d_D_checkName 7 rfl) (d_D_checkName 8 rfl) (d_D_checkName 9 rfl) (d_D_checkName 10 rfl)
def f_D_checkHow_71  (x0 : Int32) (x1 : Int32) (x2 : Int32) (x3 : Int32) (x4 : Int32) (s0 : Int32) (st : XS) : Option (Unit ⊕ String) :=
  if x1 = 0 then
    some (.inr "java/lang/IllegalArgumentException")
  else
    if x3 = 0 then
      some (.inr "java/lang/IllegalArgumentException")
    else
      if x4 = 0 then
        if s0 = 0 then
          some (.inl (()))
        else
          if (x0 &&& (8 : Int32)) = 0 then
            some (.inr "java/lang/IllegalArgumentException")
          else
            some (.inl (()))
      else
        if x2 = 0 then
          some (.inr "java/lang/IllegalArgumentException")
        else
          if s0 = 0 then
            some (.inl (()))
          else
            if (x0 &&& (8 : Int32)) = 0 then
              some (.inr "java/lang/IllegalArgumentException")
            else
              some (.inl (()))
set_option maxRecDepth 100000 in
set_option maxHeartbeats 4000000 in
theorem v_D_checkHow_71 {p : Program} {l : Launch} {e : Env} {s : State} {m : MethodId} {args : Array Value} {below : List Frame} {meth : Method} {c : Code} {D : va_G} {cA : Nat → ClassId} {g0 : Nat → Nat → Nat} {n0 : Nat → Nat} {r : Unit ⊕ String} (C : x_C p e rm_D_checkHow s m args meth c D cA (x_A g0 n0 s.heap.size) M_D_checkHow.2.1 M_D_checkHow.1 M_D_checkHow.2.2.1) (hret : meth.sig.returnType = M_D_checkHow.2.2.2.1) (hmn : meth.name = M_D_checkHow.2.2.2.2.2) (hex : c.exceptionTable.toList.map (fun h => (h.startPc, h.endPc, h.handlerPc, h.catchType)) = M_D_checkHow.2.2.2.2.1) (hfl : l.flags = flags0)  (x0 : Int32) (x1 : Int32) (x2 : Int32) (x3 : Int32) (x4 : Int32) (s0 : Int32) (st : XS) (h : f_D_checkHow_71 x0 x1 x2 x3 x4 s0 st = some r) : x_V p l e rm_D_checkHow s m args below meth c D cA (x_A g0 n0 s.heap.size) M_D_checkHow.2.2.1 g0 n0 (x_MQ D cA g0 n0 below s (xmc r) (xms r) (xth (fun _ => none) r) st) 71 [(0, xI (x0)), (1, xI (x1)), (2, xI (x2)), (3, xI (x3)), (4, xI (x4))] [xI (s0)] st 0 0 := by
  unfold f_D_checkHow_71 at h
  refine x_istore (pc := 71) (L2 := [(5, xI (s0)), (0, xI (x0)), (1, xI (x1)), (2, xI (x2)), (3, xI (x3)), (4, xI (x4))]) C (d_D_checkHow 43 rfl) (by decide) rfl ?_
  refine x_iload_n (pc := 73) C (d_D_checkHow 44 rfl) rfl 2 rfl ?_
  refine x_if_eq (pc := 74) (tgt := 102) C (d_D_checkHow 45 rfl) (by decide) (fun c1 => ?_) (fun c1 => ?_)
  · rw [if_pos c1] at h
    cases h
    exact x_throw (pc := 102) (tx := "there is no such way to open") C hfl w_449 w_450 w_12 (by decide +kernel) oa_D_155 (by decide +kernel) hex (Nat.le_of_ble_eq_true rfl) (by decide) (by decide) (Nat.le_refl 1) (Nat.le_refl 6) (by decide) (by decide) (d_D_checkHow 58 rfl) (d_D_checkHow 59 rfl) (d_D_checkHow 60 rfl) (d_D_checkHow 61 rfl) (d_D_checkHow 62 rfl)
  · rw [if_neg c1] at h
    refine x_iload_n (pc := 77) C (d_D_checkHow 46 rfl) rfl 4 rfl ?_
    refine x_if_eq (pc := 78) (tgt := 102) C (d_D_checkHow 47 rfl) (by decide) (fun c2 => ?_) (fun c2 => ?_)
    · rw [if_pos c2] at h
      cases h
      exact x_throw (pc := 102) (tx := "there is no such way to open") C hfl w_449 w_450 w_12 (by decide +kernel) oa_D_155 (by decide +kernel) hex (Nat.le_of_ble_eq_true rfl) (by decide) (by decide) (Nat.le_refl 1) (Nat.le_refl 6) (by decide) (by decide) (d_D_checkHow 58 rfl) (d_D_checkHow 59 rfl) (d_D_checkHow 60 rfl) (d_D_checkHow 61 rfl) (d_D_checkHow 62 rfl)
    · rw [if_neg c2] at h
      refine x_iload (pc := 81) C (d_D_checkHow 48 rfl) 5 rfl ?_
      refine x_if_eq (pc := 83) (tgt := 90) C (d_D_checkHow 49 rfl) (by decide) (fun c3 => ?_) (fun c3 => ?_)
      · rw [if_pos c3] at h
        refine x_iload (pc := 90) C (d_D_checkHow 52 rfl) 0 rfl ?_
        refine x_if_eq (pc := 92) (tgt := 112) C (d_D_checkHow 53 rfl) (by decide) (fun c4 => ?_) (fun c4 => ?_)
        · rw [if_pos c4] at h
          cases h
          exact x_vret (pc := 112) C hret (Nat.zero_le _) (Nat.zero_le _) (d_D_checkHow 63 rfl)
        · rw [if_neg c4] at h
          refine x_iload_n (pc := 95) C (d_D_checkHow 54 rfl) rfl 1 rfl ?_
          refine x_bipush (pc := 96) (v := 8) C (by decide) (d_D_checkHow 55 rfl) ?_
          refine x_iand (pc := 98) C (d_D_checkHow 56 rfl) ?_
          refine x_if_ne (pc := 99) (tgt := 112) C (d_D_checkHow 57 rfl) (by decide) (fun c5 => ?_) (fun c5 => ?_)
          · rw [if_neg c5] at h
            cases h
            exact x_vret (pc := 112) C hret (Nat.zero_le _) (Nat.zero_le _) (d_D_checkHow 63 rfl)
          · rw [if_pos c5] at h
            cases h
            exact x_throw (pc := 102) (tx := "there is no such way to open") C hfl w_449 w_450 w_12 (by decide +kernel) oa_D_155 (by decide +kernel) hex (Nat.le_of_ble_eq_true rfl) (by decide) (by decide) (Nat.le_refl 1) (Nat.le_refl 6) (by decide) (by decide) (d_D_checkHow 58 rfl) (d_D_checkHow 59 rfl) (d_D_checkHow 60 rfl) (d_D_checkHow 61 rfl) (d_D_checkHow 62 rfl)
      · rw [if_neg c3] at h
        refine x_iload_n (pc := 86) C (d_D_checkHow 50 rfl) rfl 3 rfl ?_
        refine x_if_eq (pc := 87) (tgt := 102) C (d_D_checkHow 51 rfl) (by decide) (fun c6 => ?_) (fun c6 => ?_)
        · rw [if_pos c6] at h
          cases h
          exact x_throw (pc := 102) (tx := "there is no such way to open") C hfl w_449 w_450 w_12 (by decide +kernel) oa_D_155 (by decide +kernel) hex (Nat.le_of_ble_eq_true rfl) (by decide) (by decide) (Nat.le_refl 1) (Nat.le_refl 6) (by decide) (by decide) (d_D_checkHow 58 rfl) (d_D_checkHow 59 rfl) (d_D_checkHow 60 rfl) (d_D_checkHow 61 rfl) (d_D_checkHow 62 rfl)
        · rw [if_neg c6] at h
          refine x_iload (pc := 90) C (d_D_checkHow 52 rfl) 0 rfl ?_
          refine x_if_eq (pc := 92) (tgt := 112) C (d_D_checkHow 53 rfl) (by decide) (fun c7 => ?_) (fun c7 => ?_)
          · rw [if_pos c7] at h
            cases h
            exact x_vret (pc := 112) C hret (Nat.zero_le _) (Nat.zero_le _) (d_D_checkHow 63 rfl)
          · rw [if_neg c7] at h
            refine x_iload_n (pc := 95) C (d_D_checkHow 54 rfl) rfl 1 rfl ?_
            refine x_bipush (pc := 96) (v := 8) C (by decide) (d_D_checkHow 55 rfl) ?_
            refine x_iand (pc := 98) C (d_D_checkHow 56 rfl) ?_
            refine x_if_ne (pc := 99) (tgt := 112) C (d_D_checkHow 57 rfl) (by decide) (fun c8 => ?_) (fun c8 => ?_)
            · rw [if_neg c8] at h
              cases h
              exact x_vret (pc := 112) C hret (Nat.zero_le _) (Nat.zero_le _) (d_D_checkHow 63 rfl)
            · rw [if_pos c8] at h
              cases h
              exact x_throw (pc := 102) (tx := "there is no such way to open") C hfl w_449 w_450 w_12 (by decide +kernel) oa_D_155 (by decide +kernel) hex (Nat.le_of_ble_eq_true rfl) (by decide) (by decide) (Nat.le_refl 1) (Nat.le_refl 6) (by decide) (by decide) (d_D_checkHow 58 rfl) (d_D_checkHow 59 rfl) (d_D_checkHow 60 rfl) (d_D_checkHow 61 rfl) (d_D_checkHow 62 rfl)
def f_D_checkHow_44  (x0 : Int32) (x1 : Int32) (x2 : Int32) (s0 : Int32) (st : XS) : Option (Unit ⊕ String) :=
  if (x0 &&& (36 : Int32)) = 0 then
    if (x0 &&& (16 : Int32)) = 0 then
      f_D_checkHow_71 x0 x1 x2 s0 0 0 st
    else
      f_D_checkHow_71 x0 x1 x2 s0 0 1 st
  else
    if (x0 &&& (16 : Int32)) = 0 then
      f_D_checkHow_71 x0 x1 x2 s0 1 0 st
    else
      f_D_checkHow_71 x0 x1 x2 s0 1 1 st
set_option maxRecDepth 100000 in
set_option maxHeartbeats 4000000 in
theorem v_D_checkHow_44 {p : Program} {l : Launch} {e : Env} {s : State} {m : MethodId} {args : Array Value} {below : List Frame} {meth : Method} {c : Code} {D : va_G} {cA : Nat → ClassId} {g0 : Nat → Nat → Nat} {n0 : Nat → Nat} {r : Unit ⊕ String} (C : x_C p e rm_D_checkHow s m args meth c D cA (x_A g0 n0 s.heap.size) M_D_checkHow.2.1 M_D_checkHow.1 M_D_checkHow.2.2.1) (hret : meth.sig.returnType = M_D_checkHow.2.2.2.1) (hmn : meth.name = M_D_checkHow.2.2.2.2.2) (hex : c.exceptionTable.toList.map (fun h => (h.startPc, h.endPc, h.handlerPc, h.catchType)) = M_D_checkHow.2.2.2.2.1) (hfl : l.flags = flags0)  (x0 : Int32) (x1 : Int32) (x2 : Int32) (s0 : Int32) (st : XS) (h : f_D_checkHow_44 x0 x1 x2 s0 st = some r) : x_V p l e rm_D_checkHow s m args below meth c D cA (x_A g0 n0 s.heap.size) M_D_checkHow.2.2.1 g0 n0 (x_MQ D cA g0 n0 below s (xmc r) (xms r) (xth (fun _ => none) r) st) 44 [(0, xI (x0)), (1, xI (x1)), (2, xI (x2))] [xI (s0)] st 0 0 := by
  unfold f_D_checkHow_44 at h
  refine x_istore_n (pc := 44) (L2 := [(3, xI (s0)), (0, xI (x0)), (1, xI (x1)), (2, xI (x2))]) C (d_D_checkHow 27 rfl) rfl (by decide) rfl ?_
  refine x_iload_n (pc := 45) C (d_D_checkHow 28 rfl) rfl 1 rfl ?_
  refine x_bipush (pc := 46) (v := 36) C (by decide) (d_D_checkHow 29 rfl) ?_
  refine x_iand (pc := 48) C (d_D_checkHow 30 rfl) ?_
  refine x_if_eq (pc := 49) (tgt := 56) C (d_D_checkHow 31 rfl) (by decide) (fun c9 => ?_) (fun c9 => ?_)
  · rw [if_pos c9] at h
    refine x_iconst (pc := 56) (v := 0) C (by decide) (d_D_checkHow 34 rfl) ?_
    refine x_istore (pc := 57) (L2 := [(4, xI (0)), (3, xI (s0)), (0, xI (x0)), (1, xI (x1)), (2, xI (x2))]) C (d_D_checkHow 35 rfl) (by decide) rfl ?_
    refine x_iload_n (pc := 59) C (d_D_checkHow 36 rfl) rfl 2 rfl ?_
    refine x_bipush (pc := 60) (v := 16) C (by decide) (d_D_checkHow 37 rfl) ?_
    refine x_iand (pc := 62) C (d_D_checkHow 38 rfl) ?_
    refine x_if_eq (pc := 63) (tgt := 70) C (d_D_checkHow 39 rfl) (by decide) (fun c10 => ?_) (fun c10 => ?_)
    · rw [if_pos c10] at h
      refine x_iconst (pc := 70) (v := 0) C (by decide) (d_D_checkHow 42 rfl) ?_
      exact x_sub [2, 3, 4, 1, 0] rfl (v_D_checkHow_71 C hret hmn hex hfl _ _ _ _ _ _ _ h)
    · rw [if_neg c10] at h
      refine x_iconst (pc := 66) (v := 1) C (by decide) (d_D_checkHow 40 rfl) ?_
      refine x_goto (pc := 67) (tgt := 71) C (d_D_checkHow 41 rfl) (by decide) ?_
      exact x_sub [2, 3, 4, 1, 0] rfl (v_D_checkHow_71 C hret hmn hex hfl _ _ _ _ _ _ _ h)
  · rw [if_neg c9] at h
    refine x_iconst (pc := 52) (v := 1) C (by decide) (d_D_checkHow 32 rfl) ?_
    refine x_goto (pc := 53) (tgt := 57) C (d_D_checkHow 33 rfl) (by decide) ?_
    refine x_istore (pc := 57) (L2 := [(4, xI (1)), (3, xI (s0)), (0, xI (x0)), (1, xI (x1)), (2, xI (x2))]) C (d_D_checkHow 35 rfl) (by decide) rfl ?_
    refine x_iload_n (pc := 59) C (d_D_checkHow 36 rfl) rfl 2 rfl ?_
    refine x_bipush (pc := 60) (v := 16) C (by decide) (d_D_checkHow 37 rfl) ?_
    refine x_iand (pc := 62) C (d_D_checkHow 38 rfl) ?_
    refine x_if_eq (pc := 63) (tgt := 70) C (d_D_checkHow 39 rfl) (by decide) (fun c11 => ?_) (fun c11 => ?_)
    · rw [if_pos c11] at h
      refine x_iconst (pc := 70) (v := 0) C (by decide) (d_D_checkHow 42 rfl) ?_
      exact x_sub [2, 3, 4, 1, 0] rfl (v_D_checkHow_71 C hret hmn hex hfl _ _ _ _ _ _ _ h)
    · rw [if_neg c11] at h
      refine x_iconst (pc := 66) (v := 1) C (by decide) (d_D_checkHow 40 rfl) ?_
      refine x_goto (pc := 67) (tgt := 71) C (d_D_checkHow 41 rfl) (by decide) ?_
      exact x_sub [2, 3, 4, 1, 0] rfl (v_D_checkHow_71 C hret hmn hex hfl _ _ _ _ _ _ _ h)
def f_D_checkHow_28  (x0 : Int32) (x1 : Int32) (s0 : Int32) (st : XS) : Option (Unit ⊕ String) :=
  if s0 = 0 then
    if (x0 &&& (1 : Int32)) = 0 then
      f_D_checkHow_44 x0 x1 s0 0 st
    else
      f_D_checkHow_44 x0 x1 s0 1 st
  else
    f_D_checkHow_44 x0 x1 s0 1 st
set_option maxRecDepth 100000 in
set_option maxHeartbeats 4000000 in
theorem v_D_checkHow_28 {p : Program} {l : Launch} {e : Env} {s : State} {m : MethodId} {args : Array Value} {below : List Frame} {meth : Method} {c : Code} {D : va_G} {cA : Nat → ClassId} {g0 : Nat → Nat → Nat} {n0 : Nat → Nat} {r : Unit ⊕ String} (C : x_C p e rm_D_checkHow s m args meth c D cA (x_A g0 n0 s.heap.size) M_D_checkHow.2.1 M_D_checkHow.1 M_D_checkHow.2.2.1) (hret : meth.sig.returnType = M_D_checkHow.2.2.2.1) (hmn : meth.name = M_D_checkHow.2.2.2.2.2) (hex : c.exceptionTable.toList.map (fun h => (h.startPc, h.endPc, h.handlerPc, h.catchType)) = M_D_checkHow.2.2.2.2.1) (hfl : l.flags = flags0)  (x0 : Int32) (x1 : Int32) (s0 : Int32) (st : XS) (h : f_D_checkHow_28 x0 x1 s0 st = some r) : x_V p l e rm_D_checkHow s m args below meth c D cA (x_A g0 n0 s.heap.size) M_D_checkHow.2.2.1 g0 n0 (x_MQ D cA g0 n0 below s (xmc r) (xms r) (xth (fun _ => none) r) st) 28 [(0, xI (x0)), (1, xI (x1))] [xI (s0)] st 0 0 := by
  unfold f_D_checkHow_28 at h
  refine x_istore_n (pc := 28) (L2 := [(2, xI (s0)), (0, xI (x0)), (1, xI (x1))]) C (d_D_checkHow 17 rfl) rfl (by decide) rfl ?_
  refine x_iload_n (pc := 29) C (d_D_checkHow 18 rfl) rfl 0 rfl ?_
  refine x_if_ne (pc := 30) (tgt := 39) C (d_D_checkHow 19 rfl) (by decide) (fun c12 => ?_) (fun c12 => ?_)
  · rw [if_neg c12] at h
    refine x_iconst (pc := 39) (v := 1) C (by decide) (d_D_checkHow 24 rfl) ?_
    refine x_goto (pc := 40) (tgt := 44) C (d_D_checkHow 25 rfl) (by decide) ?_
    exact x_sub [1, 2, 0] rfl (v_D_checkHow_44 C hret hmn hex hfl _ _ _ _ _ h)
  · rw [if_pos c12] at h
    refine x_iload_n (pc := 33) C (d_D_checkHow 20 rfl) rfl 1 rfl ?_
    refine x_iconst (pc := 34) (v := 1) C (by decide) (d_D_checkHow 21 rfl) ?_
    refine x_iand (pc := 35) C (d_D_checkHow 22 rfl) ?_
    refine x_if_eq (pc := 36) (tgt := 43) C (d_D_checkHow 23 rfl) (by decide) (fun c13 => ?_) (fun c13 => ?_)
    · rw [if_pos c13] at h
      refine x_iconst (pc := 43) (v := 0) C (by decide) (d_D_checkHow 26 rfl) ?_
      exact x_sub [1, 2, 0] rfl (v_D_checkHow_44 C hret hmn hex hfl _ _ _ _ _ h)
    · rw [if_neg c13] at h
      refine x_iconst (pc := 39) (v := 1) C (by decide) (d_D_checkHow 24 rfl) ?_
      refine x_goto (pc := 40) (tgt := 44) C (d_D_checkHow 25 rfl) (by decide) ?_
      exact x_sub [1, 2, 0] rfl (v_D_checkHow_44 C hret hmn hex hfl _ _ _ _ _ h)
def f_D_checkHow (x0 : Int32) (st : XS) : Option (Unit ⊕ String) :=
  if x0 < 1 then
    if (x0 &&& (2 : Int32)) = 0 then
      f_D_checkHow_28 x0 0 0 st
    else
      f_D_checkHow_28 x0 0 1 st
  else
    if 63 < x0 then
      if (x0 &&& (2 : Int32)) = 0 then
        f_D_checkHow_28 x0 0 0 st
      else
        f_D_checkHow_28 x0 0 1 st
    else
      if (x0 &&& (2 : Int32)) = 0 then
        f_D_checkHow_28 x0 1 0 st
      else
        f_D_checkHow_28 x0 1 1 st
set_option maxRecDepth 100000 in
set_option maxHeartbeats 4000000 in
theorem m_D_checkHow (l : Launch) (hfl : l.flags = flags0) {x0 : Int32} {st : XS} {r : Unit ⊕ String} (h : f_D_checkHow x0 st = some r) : x_M l M_D_checkHow rm_D_checkHow [xI (x0)] st (xth (fun _ => none) r) st (xmc r) (xms r) := by
  refine x_enter (Nat.le_of_ble_eq_true rfl) ?_
  intro p e s m below meth c D cA g args B C
  have hret := B.2.2.2.2.2.2.2.2.1
  have hmn := B.2.2.2.2.2.2.2.1
  have hex := B.2.2.2.2.2.2.2.2.2.1
  unfold f_D_checkHow at h
  refine x_iload_n (pc := 0) C (d_D_checkHow 0 rfl) rfl 0 rfl ?_
  refine x_iconst (pc := 1) (v := 1) C (by decide) (d_D_checkHow 1 rfl) ?_
  refine x_icmp_lt (pc := 2) (tgt := 15) C (d_D_checkHow 2 rfl) (by decide) (fun c14 => ?_) (fun c14 => ?_)
  · rw [if_pos c14] at h
    refine x_iconst (pc := 15) (v := 0) C (by decide) (d_D_checkHow 8 rfl) ?_
    refine x_istore_n (pc := 16) (L2 := [(1, xI (0)), (0, xI (x0))]) C (d_D_checkHow 9 rfl) rfl (by decide) rfl ?_
    refine x_iload_n (pc := 17) C (d_D_checkHow 10 rfl) rfl 1 rfl ?_
    refine x_iconst (pc := 18) (v := 2) C (by decide) (d_D_checkHow 11 rfl) ?_
    refine x_iand (pc := 19) C (d_D_checkHow 12 rfl) ?_
    refine x_if_eq (pc := 20) (tgt := 27) C (d_D_checkHow 13 rfl) (by decide) (fun c15 => ?_) (fun c15 => ?_)
    · rw [if_pos c15] at h
      refine x_iconst (pc := 27) (v := 0) C (by decide) (d_D_checkHow 16 rfl) ?_
      exact x_sub [1, 0] rfl (v_D_checkHow_28 C hret hmn hex hfl _ _ _ _ h)
    · rw [if_neg c15] at h
      refine x_iconst (pc := 23) (v := 1) C (by decide) (d_D_checkHow 14 rfl) ?_
      refine x_goto (pc := 24) (tgt := 28) C (d_D_checkHow 15 rfl) (by decide) ?_
      exact x_sub [1, 0] rfl (v_D_checkHow_28 C hret hmn hex hfl _ _ _ _ h)
  · rw [if_neg c14] at h
    refine x_iload_n (pc := 5) C (d_D_checkHow 3 rfl) rfl 0 rfl ?_
    refine x_bipush (pc := 6) (v := 63) C (by decide) (d_D_checkHow 4 rfl) ?_
    refine x_icmp_gt (pc := 8) (tgt := 15) C (d_D_checkHow 5 rfl) (by decide) (fun c16 => ?_) (fun c16 => ?_)
    · rw [if_pos c16] at h
      refine x_iconst (pc := 15) (v := 0) C (by decide) (d_D_checkHow 8 rfl) ?_
      refine x_istore_n (pc := 16) (L2 := [(1, xI (0)), (0, xI (x0))]) C (d_D_checkHow 9 rfl) rfl (by decide) rfl ?_
      refine x_iload_n (pc := 17) C (d_D_checkHow 10 rfl) rfl 1 rfl ?_
      refine x_iconst (pc := 18) (v := 2) C (by decide) (d_D_checkHow 11 rfl) ?_
      refine x_iand (pc := 19) C (d_D_checkHow 12 rfl) ?_
      refine x_if_eq (pc := 20) (tgt := 27) C (d_D_checkHow 13 rfl) (by decide) (fun c17 => ?_) (fun c17 => ?_)
      · rw [if_pos c17] at h
        refine x_iconst (pc := 27) (v := 0) C (by decide) (d_D_checkHow 16 rfl) ?_
        exact x_sub [1, 0] rfl (v_D_checkHow_28 C hret hmn hex hfl _ _ _ _ h)
      · rw [if_neg c17] at h
        refine x_iconst (pc := 23) (v := 1) C (by decide) (d_D_checkHow 14 rfl) ?_
        refine x_goto (pc := 24) (tgt := 28) C (d_D_checkHow 15 rfl) (by decide) ?_
        exact x_sub [1, 0] rfl (v_D_checkHow_28 C hret hmn hex hfl _ _ _ _ h)
    · rw [if_neg c16] at h
      refine x_iconst (pc := 11) (v := 1) C (by decide) (d_D_checkHow 6 rfl) ?_
      refine x_goto (pc := 12) (tgt := 16) C (d_D_checkHow 7 rfl) (by decide) ?_
      refine x_istore_n (pc := 16) (L2 := [(1, xI (1)), (0, xI (x0))]) C (d_D_checkHow 9 rfl) rfl (by decide) rfl ?_
      refine x_iload_n (pc := 17) C (d_D_checkHow 10 rfl) rfl 1 rfl ?_
      refine x_iconst (pc := 18) (v := 2) C (by decide) (d_D_checkHow 11 rfl) ?_
      refine x_iand (pc := 19) C (d_D_checkHow 12 rfl) ?_
      refine x_if_eq (pc := 20) (tgt := 27) C (d_D_checkHow 13 rfl) (by decide) (fun c18 => ?_) (fun c18 => ?_)
      · rw [if_pos c18] at h
        refine x_iconst (pc := 27) (v := 0) C (by decide) (d_D_checkHow 16 rfl) ?_
        exact x_sub [1, 0] rfl (v_D_checkHow_28 C hret hmn hex hfl _ _ _ _ h)
      · rw [if_neg c18] at h
        refine x_iconst (pc := 23) (v := 1) C (by decide) (d_D_checkHow 14 rfl) ?_
        refine x_goto (pc := 24) (tgt := 28) C (d_D_checkHow 15 rfl) (by decide) ?_
        exact x_sub [1, 0] rfl (v_D_checkHow_28 C hret hmn hex hfl _ _ _ _ h)
def f_D_fileNamed_11  : Nat → Int32 → Option Nat → Int32 → Int32 → XS → Option (Option Nat)
  | 0, _, _, _, _, _ => none
  | n + 1, x1, x2, x3, x4, st =>
    if x3 ≤ x4 then
      some (none)
    else
      match x2 with
      | none => none
      | some i2 =>
        if x_in x4 6 then
          match st.2.2.1 9 i2 x4.toNatClampNeg with
          | none => none
          | some i5 =>
            if (st.1 4 i5 2) = x1 then
              some (some (i5))
            else
              f_D_fileNamed_11 n x1 (some (i2)) x3 (x4 + 1) st
        else none
set_option maxRecDepth 100000 in
set_option maxHeartbeats 4000000 in
theorem v_D_fileNamed_11 {p : Program} {l : Launch} {e : Env} {s : State} {m : MethodId} {args : Array Value} {below : List Frame} {meth : Method} {c : Code} {D : va_G} {cA : Nat → ClassId} {g0 : Nat → Nat → Nat} {n0 : Nat → Nat} {r : Option Nat} (C : x_C p e rm_D_fileNamed s m args meth c D cA (x_A g0 n0 s.heap.size) M_D_fileNamed.2.1 M_D_fileNamed.1 M_D_fileNamed.2.2.1) (hret : meth.sig.returnType = M_D_fileNamed.2.2.2.1) (hmn : meth.name = M_D_fileNamed.2.2.2.2.2) (hex : c.exceptionTable.toList.map (fun h => (h.startPc, h.endPc, h.handlerPc, h.catchType)) = M_D_fileNamed.2.2.2.2.1)  : ∀ (n : Nat) (x1 : Int32) (x2 : Option Nat) (x3 : Int32) (x4 : Int32) (st : XS), f_D_fileNamed_11 n x1 x2 x3 x4 st = some r → x_V p l e rm_D_fileNamed s m args below meth c D cA (x_A g0 n0 s.heap.size) M_D_fileNamed.2.2.1 g0 n0 (x_MQ D cA g0 n0 below s 0 0 (.inl (some (xR 4 r))) st) 11 [(1, xI (x1)), (2, xR 9 (x2)), (3, xI (x3)), (4, xI (x4))] [] st 0 0 := by
  intro n
  induction n with
  | zero => intro x1 x2 x3 x4 st h; cases h
  | succ n ih =>
    intro x1 x2 x3 x4 st h
    rw [f_D_fileNamed_11.eq_def] at h
    dsimp only at h
    refine x_iload (pc := 11) C (d_D_fileNamed 8 rfl) 3 rfl ?_
    refine x_iload_n (pc := 13) C (d_D_fileNamed 9 rfl) rfl 2 rfl ?_
    refine x_icmp_ge (pc := 14) (tgt := 41) C (d_D_fileNamed 10 rfl) (by decide) (fun c1 => ?_) (fun c1 => ?_)
    · rw [if_pos c1] at h
      refine x_nullq (pc := 41) (q := 4) C (d_D_fileNamed 23 rfl) ?_
      cases h
      exact x_aret (pc := 42) C hret (Or.inl ⟨_, rfl⟩) (Nat.zero_le _) (Nat.zero_le _) (d_D_fileNamed 24 rfl)
    · rw [if_neg c1] at h
      refine x_aload_n (pc := 17) C (d_D_fileNamed 11 rfl) rfl 1 rfl ?_
      refine x_iload (pc := 18) C (d_D_fileNamed 12 rfl) 3 rfl ?_
      cases c3 : x2 with
      | none => rw [c3] at h; cases h
      | some i2 =>
        rw [c3] at h
        dsimp only at h
        by_cases b4 : x_in x4 6
        · rw [if_pos b4] at h
          refine x_aald (pc := 20) C ar_9 b4 (d_D_fileNamed 13 rfl) ?_
          refine x_astore (pc := 21) (L2 := [(5, xR 4 (st.2.2.1 9 i2 x4.toNatClampNeg)), (1, xI (x1)), (2, xR 9 (some (i2))), (3, xI (x3)), (4, xI (x4))]) C (d_D_fileNamed 14 rfl) (by decide) rfl ?_
          refine x_aload (pc := 23) C (d_D_fileNamed 15 rfl) 0 rfl ?_
          cases c6 : st.2.2.1 9 i2 x4.toNatClampNeg with
          | none => rw [c6] at h; cases h
          | some i5 =>
            rw [c6] at h
            dsimp only at h
            refine x_getI (pc := 25) C fl_D_112 rfl (d_D_fileNamed 16 rfl) ?_
            refine x_iload_n (pc := 28) C (d_D_fileNamed 17 rfl) rfl 1 rfl ?_
            refine x_icmp_ne (pc := 29) (tgt := 35) C (d_D_fileNamed 18 rfl) (by decide) (fun c7 => ?_) (fun c7 => ?_)
            · rw [if_neg c7] at h
              refine x_iinc (pc := 35) (v := x4 + 1) (L2 := [(4, xI (x4 + 1)), (5, xR 4 (some (i5))), (1, xI (x1)), (2, xR 9 (some (i2))), (3, xI (x3))]) C (d_D_fileNamed 21 rfl) 4 rfl rfl (by decide) rfl ?_
              refine x_goto (pc := 38) (tgt := 11) C (d_D_fileNamed 22 rfl) (by decide) ?_
              exact x_sub [2, 3, 4, 0] rfl (ih _ _ _ _ _ h)
            · rw [if_pos c7] at h
              refine x_aload (pc := 32) C (d_D_fileNamed 19 rfl) 0 rfl ?_
              cases h
              exact x_aret (pc := 34) C hret (Or.inl ⟨_, rfl⟩) (Nat.zero_le _) (Nat.zero_le _) (d_D_fileNamed 20 rfl)
        · rw [if_neg b4] at h; cases h
def f_D_fileNamed (x0 : Nat) (x1 : Int32) (st : XS) : Option (Option Nat) :=
  match st.2.2.1 0 x0 3 with
  | none => none
  | some i8 =>
    f_D_fileNamed_11 100 x1 (some (i8)) 6 0 st
set_option maxRecDepth 100000 in
set_option maxHeartbeats 4000000 in
theorem m_D_fileNamed (l : Launch) {x0 : Nat} {x1 : Int32} {st : XS} {r : Option Nat} (h : f_D_fileNamed x0 x1 st = some r) : x_M l M_D_fileNamed rm_D_fileNamed [xR 0 (some (x0)), xI (x1)] st (.inl (some (xR 4 r))) st 0 0 := by
  refine x_enter (Nat.le_of_ble_eq_true rfl) ?_
  intro p e s m below meth c D cA g args B C
  have hret := B.2.2.2.2.2.2.2.2.1
  have hmn := B.2.2.2.2.2.2.2.1
  have hex := B.2.2.2.2.2.2.2.2.2.1
  unfold f_D_fileNamed at h
  refine x_aload_n (pc := 0) C (d_D_fileNamed 0 rfl) rfl 0 rfl ?_
  refine x_getR (pc := 1) (t := 9) C fl_D_29 rfl rfl (d_D_fileNamed 1 rfl) ?_
  refine x_astore_n (pc := 4) (L2 := [(2, xR 9 (st.2.2.1 0 x0 3)), (0, xR 0 (some (x0))), (1, xI (x1))]) C (d_D_fileNamed 2 rfl) rfl (by decide) rfl ?_
  refine x_aload_n (pc := 5) C (d_D_fileNamed 3 rfl) rfl 0 rfl ?_
  cases c9 : st.2.2.1 0 x0 3 with
  | none => rw [c9] at h; cases h
  | some i8 =>
    rw [c9] at h
    dsimp only at h
    refine x_alen (pc := 6) (v := 6) C ar_9 rfl (d_D_fileNamed 4 rfl) ?_
    refine x_istore_n (pc := 7) (L2 := [(3, xI (6)), (2, xR 9 (some (i8))), (0, xR 0 (some (x0))), (1, xI (x1))]) C (d_D_fileNamed 5 rfl) rfl (by decide) rfl ?_
    refine x_iconst (pc := 8) (v := 0) C (by decide) (d_D_fileNamed 6 rfl) ?_
    refine x_istore (pc := 9) (L2 := [(4, xI (0)), (3, xI (6)), (2, xR 9 (some (i8))), (0, xR 0 (some (x0))), (1, xI (x1))]) C (d_D_fileNamed 7 rfl) (by decide) rfl ?_
    exact x_sub [4, 2, 1, 0] rfl (v_D_fileNamed_11 C hret hmn hex 100 _ _ _ _ _ h)
def f_D_freeFile_10  : Nat → Option Nat → Int32 → Int32 → XS → Option (Option Nat)
  | 0, _, _, _, _ => none
  | n + 1, x1, x2, x3, st =>
    if x2 ≤ x3 then
      some (none)
    else
      match x1 with
      | none => none
      | some i2 =>
        if x_in x3 6 then
          match st.2.2.1 9 i2 x3.toNatClampNeg with
          | none => none
          | some i5 =>
            match f_F_isThere i5 st with
            | none => none
            | some v8 =>
              if v8 = 0 then
                some (some (i5))
              else
                f_D_freeFile_10 n (some (i2)) x2 (x3 + 1) st
        else none
set_option maxRecDepth 100000 in
set_option maxHeartbeats 4000000 in
theorem v_D_freeFile_10 {p : Program} {l : Launch} {e : Env} {s : State} {m : MethodId} {args : Array Value} {below : List Frame} {meth : Method} {c : Code} {D : va_G} {cA : Nat → ClassId} {g0 : Nat → Nat → Nat} {n0 : Nat → Nat} {r : Option Nat} (C : x_C p e rm_D_freeFile s m args meth c D cA (x_A g0 n0 s.heap.size) M_D_freeFile.2.1 M_D_freeFile.1 M_D_freeFile.2.2.1) (hret : meth.sig.returnType = M_D_freeFile.2.2.2.1) (hmn : meth.name = M_D_freeFile.2.2.2.2.2) (hex : c.exceptionTable.toList.map (fun h => (h.startPc, h.endPc, h.handlerPc, h.catchType)) = M_D_freeFile.2.2.2.2.1)  : ∀ (n : Nat) (x1 : Option Nat) (x2 : Int32) (x3 : Int32) (st : XS), f_D_freeFile_10 n x1 x2 x3 st = some r → x_V p l e rm_D_freeFile s m args below meth c D cA (x_A g0 n0 s.heap.size) M_D_freeFile.2.2.1 g0 n0 (x_MQ D cA g0 n0 below s 0 0 (.inl (some (xR 4 r))) st) 10 [(1, xR 9 (x1)), (2, xI (x2)), (3, xI (x3))] [] st 0 0 := by
  intro n
  induction n with
  | zero => intro x1 x2 x3 st h; cases h
  | succ n ih =>
    intro x1 x2 x3 st h
    rw [f_D_freeFile_10.eq_def] at h
    dsimp only at h
    refine x_iload_n (pc := 10) C (d_D_freeFile 8 rfl) rfl 2 rfl ?_
    refine x_iload_n (pc := 11) C (d_D_freeFile 9 rfl) rfl 1 rfl ?_
    refine x_icmp_ge (pc := 12) (tgt := 37) C (d_D_freeFile 10 rfl) (by decide) (fun c1 => ?_) (fun c1 => ?_)
    · rw [if_pos c1] at h
      refine x_nullq (pc := 37) (q := 4) C (d_D_freeFile 22 rfl) ?_
      cases h
      exact x_aret (pc := 38) C hret (Or.inl ⟨_, rfl⟩) (Nat.zero_le _) (Nat.zero_le _) (d_D_freeFile 23 rfl)
    · rw [if_neg c1] at h
      refine x_aload_n (pc := 15) C (d_D_freeFile 11 rfl) rfl 0 rfl ?_
      refine x_iload_n (pc := 16) C (d_D_freeFile 12 rfl) rfl 2 rfl ?_
      cases c3 : x1 with
      | none => rw [c3] at h; cases h
      | some i2 =>
        rw [c3] at h
        dsimp only at h
        by_cases b4 : x_in x3 6
        · rw [if_pos b4] at h
          refine x_aald (pc := 17) C ar_9 b4 (d_D_freeFile 13 rfl) ?_
          refine x_astore (pc := 18) (L2 := [(4, xR 4 (st.2.2.1 9 i2 x3.toNatClampNeg)), (1, xR 9 (some (i2))), (2, xI (x2)), (3, xI (x3))]) C (d_D_freeFile 14 rfl) (by decide) rfl ?_
          refine x_aload (pc := 20) C (d_D_freeFile 15 rfl) 0 rfl ?_
          cases c6 : st.2.2.1 9 i2 x3.toNatClampNeg with
          | none => rw [c6] at h; cases h
          | some i5 =>
            rw [c6] at h
            dsimp only at h
            cases c7 : f_F_isThere i5 st with
            | none => rw [c7] at h; cases h
            | some v8 =>
              rw [c7] at h
              dsimp only at h
              refine x_callV (mc := 0) (ms := 0) (pc := 22) (bL := []) (K := []) C cs_D_241 (m_F_isThere l c7 : x_M l _ _ _ _ (.inl (some (xI v8))) _ 0 0) (by decide) rfl (Nat.le_of_ble_eq_true rfl) (d_D_freeFile 16 rfl) ?_
              refine x_if_ne (pc := 25) (tgt := 31) C (d_D_freeFile 17 rfl) (by decide) (fun c9 => ?_) (fun c9 => ?_)
              · rw [if_neg c9] at h
                refine x_iinc (pc := 31) (v := x3 + 1) (L2 := [(3, xI (x3 + 1)), (4, xR 4 (some (i5))), (1, xR 9 (some (i2))), (2, xI (x2))]) C (d_D_freeFile 20 rfl) 3 rfl rfl (by decide) rfl ?_
                refine x_goto (pc := 34) (tgt := 10) C (d_D_freeFile 21 rfl) (by decide) ?_
                exact x_sub [2, 3, 0] rfl (ih _ _ _ _ h)
              · rw [if_pos c9] at h
                refine x_aload (pc := 28) C (d_D_freeFile 18 rfl) 0 rfl ?_
                cases h
                exact x_aret (pc := 30) C hret (Or.inl ⟨_, rfl⟩) (Nat.zero_le _) (Nat.zero_le _) (d_D_freeFile 19 rfl)
        · rw [if_neg b4] at h; cases h
def f_D_freeFile (x0 : Nat) (st : XS) : Option (Option Nat) :=
  match st.2.2.1 0 x0 3 with
  | none => none
  | some i11 =>
    f_D_freeFile_10 100 (some (i11)) 6 0 st
set_option maxRecDepth 100000 in
set_option maxHeartbeats 4000000 in
theorem m_D_freeFile (l : Launch) {x0 : Nat} {st : XS} {r : Option Nat} (h : f_D_freeFile x0 st = some r) : x_M l M_D_freeFile rm_D_freeFile [xR 0 (some (x0))] st (.inl (some (xR 4 r))) st 0 0 := by
  refine x_enter (Nat.le_of_ble_eq_true rfl) ?_
  intro p e s m below meth c D cA g args B C
  have hret := B.2.2.2.2.2.2.2.2.1
  have hmn := B.2.2.2.2.2.2.2.1
  have hex := B.2.2.2.2.2.2.2.2.2.1
  unfold f_D_freeFile at h
  refine x_aload_n (pc := 0) C (d_D_freeFile 0 rfl) rfl 0 rfl ?_
  refine x_getR (pc := 1) (t := 9) C fl_D_29 rfl rfl (d_D_freeFile 1 rfl) ?_
  refine x_astore_n (pc := 4) (L2 := [(1, xR 9 (st.2.2.1 0 x0 3)), (0, xR 0 (some (x0)))]) C (d_D_freeFile 2 rfl) rfl (by decide) rfl ?_
  refine x_aload_n (pc := 5) C (d_D_freeFile 3 rfl) rfl 0 rfl ?_
  cases c12 : st.2.2.1 0 x0 3 with
  | none => rw [c12] at h; cases h
  | some i11 =>
    rw [c12] at h
    dsimp only at h
    refine x_alen (pc := 6) (v := 6) C ar_9 rfl (d_D_freeFile 4 rfl) ?_
    refine x_istore_n (pc := 7) (L2 := [(2, xI (6)), (1, xR 9 (some (i11))), (0, xR 0 (some (x0)))]) C (d_D_freeFile 5 rfl) rfl (by decide) rfl ?_
    refine x_iconst (pc := 8) (v := 0) C (by decide) (d_D_freeFile 6 rfl) ?_
    refine x_istore_n (pc := 9) (L2 := [(3, xI (0)), (2, xI (6)), (1, xR 9 (some (i11))), (0, xR 0 (some (x0)))]) C (d_D_freeFile 7 rfl) rfl (by decide) rfl ?_
    exact x_sub [2, 1, 0] rfl (v_D_freeFile_10 C hret hmn hex 100 _ _ _ _ h)
def f_D_open_119  (x3 : Int32) (x4 : Option Nat) (x6 : Option Nat) (x7 : Int32) (x8 : Option Nat) (st : XS) : Option ((Int32 ⊕ String) × XS) :=
  match x6 with
  | none => none
  | some i1 =>
    match x8 with
    | none => none
    | some i3 =>
      match f_O_begin i3 (none) (some (i1)) (x3 &&& (7 : Int32)) (xsI st 4 i1 1 0) with
      | none => none
      | some (_, st7) =>
        match x4 with
        | none => none
        | some i8 =>
          match f_P_hold i8 x7 (some (i3)) st7 with
          | none => none
          | some (_, st12) =>
            some (.inl (x7), st12)
set_option maxRecDepth 100000 in
set_option maxHeartbeats 4000000 in
theorem v_D_open_119 {p : Program} {l : Launch} {e : Env} {s : State} {m : MethodId} {args : Array Value} {below : List Frame} {meth : Method} {c : Code} {D : va_G} {cA : Nat → ClassId} {g0 : Nat → Nat → Nat} {n0 : Nat → Nat} {r : Int32 ⊕ String} {st2 : XS} (C : x_C p e rm_D_open s m args meth c D cA (x_A g0 n0 s.heap.size) M_D_open.2.1 M_D_open.1 M_D_open.2.2.1) (hret : meth.sig.returnType = M_D_open.2.2.2.1) (hmn : meth.name = M_D_open.2.2.2.2.2) (hex : c.exceptionTable.toList.map (fun h => (h.startPc, h.endPc, h.handlerPc, h.catchType)) = M_D_open.2.2.2.2.1) (hfl : l.flags = flags0)  (x3 : Int32) (x4 : Option Nat) (x6 : Option Nat) (x7 : Int32) (x8 : Option Nat) (st : XS) (h : f_D_open_119 x3 x4 x6 x7 x8 st = some (r, st2)) : x_V p l e rm_D_open s m args below meth c D cA (x_A g0 n0 s.heap.size) M_D_open.2.2.1 g0 n0 (x_MQ D cA g0 n0 below s (xmc r) (xms r) (xth (fun v => some (xI v)) r) st2) 119 [(3, xI (x3)), (4, xR 1 (x4)), (6, xR 4 (x6)), (7, xI (x7)), (8, xR 2 (x8))] [] st 0 0 := by
  unfold f_D_open_119 at h
  refine x_aload (pc := 119) C (d_D_open 60 rfl) 2 rfl ?_
  refine x_iconst (pc := 121) (v := 0) C (by decide) (d_D_open 61 rfl) ?_
  cases c2 : x6 with
  | none => rw [c2] at h; cases h
  | some i1 =>
    rw [c2] at h
    dsimp only at h
    refine x_putI (pc := 122) C fl_D_115 (pf_D_115 _) rfl ty_4_1 (d_D_open 62 rfl) ?_
    refine x_aload (pc := 125) C (d_D_open 63 rfl) 4 rfl ?_
    refine x_nullq (pc := 127) (q := 3) C (d_D_open 64 rfl) ?_
    refine x_aload (pc := 128) C (d_D_open 65 rfl) 2 rfl ?_
    refine x_iload_n (pc := 130) C (d_D_open 66 rfl) rfl 0 rfl ?_
    refine x_bipush (pc := 131) (v := 7) C (by decide) (d_D_open 67 rfl) ?_
    refine x_iand (pc := 133) C (d_D_open 68 rfl) ?_
    cases c4 : x8 with
    | none => rw [c4] at h; cases h
    | some i3 =>
      rw [c4] at h
      dsimp only at h
      cases c5 : f_O_begin i3 (none) (some (i1)) (x3 &&& (7 : Int32)) (xsI st 4 i1 1 0) with
      | none => rw [c5] at h; cases h
      | some w14 =>
        obtain ⟨v6, st7⟩ := w14
        rw [c5] at h
        dsimp only at h
        refine x_callV (mc := 0) (ms := 0) (pc := 134) (bL := [xR 3 (none), xR 4 (some (i1)), xI (x3 &&& (7 : Int32))]) (K := []) C cs_D_62 (m_O_begin l c5 : x_M l _ _ _ _ (.inl none) _ 0 0) (by decide) rfl (Nat.le_of_ble_eq_true rfl) (d_D_open 69 rfl) ?_
        refine x_aload (pc := 137) C (d_D_open 70 rfl) 1 rfl ?_
        refine x_iload (pc := 139) C (d_D_open 71 rfl) 3 rfl ?_
        refine x_aload (pc := 141) C (d_D_open 72 rfl) 4 rfl ?_
        cases c9 : x4 with
        | none => rw [c9] at h; cases h
        | some i8 =>
          rw [c9] at h
          dsimp only at h
          cases c10 : f_P_hold i8 x7 (some (i3)) st7 with
          | none => rw [c10] at h; cases h
          | some w13 =>
            obtain ⟨v11, st12⟩ := w13
            rw [c10] at h
            dsimp only at h
            refine x_callV (mc := 0) (ms := 0) (pc := 143) (bL := [xI (x7), xR 2 (some (i3))]) (K := []) C cs_D_65 (m_P_hold l c10 : x_M l _ _ _ _ (.inl none) _ 0 0) (by decide) rfl (Nat.le_of_ble_eq_true rfl) (d_D_open 73 rfl) ?_
            refine x_iload (pc := 146) C (d_D_open 74 rfl) 3 rfl ?_
            cases h
            exact x_iret (pc := 148) C hret rfl (Nat.zero_le _) (Nat.zero_le _) (d_D_open 75 rfl)
def f_D_open_66  (x0 : Nat) (x2 : Int32) (x3 : Int32) (x4 : Option Nat) (x5 : Option Nat) (s0 : Option Nat) (st : XS) : Option ((Int32 ⊕ String) × XS) :=
  match x4 with
  | none => none
  | some i15 =>
    match f_P_freeFrom i15 0 st with
    | none => none
    | some v18 =>
      match f_D_freeOpening x0 (none) st with
      | none => none
      | some v20 =>
        match s0 with
        | none =>
          some (.inl ((-4)), st)
        | some i22 =>
          if v18 < 0 then
            some (.inl ((-4)), st)
          else
            match v20 with
            | none =>
              some (.inl ((-4)), st)
            | some i25 =>
              match x5 with
              | none =>
                f_D_open_119 x3 (some (i15)) (some (i22)) v18 (some (i25)) (xsI st 4 i22 2 x2)
              | some i27 =>
                if (x3 &&& (32 : Int32)) = 0 then
                  match f_O_begin i25 (none) (some (i22)) (x3 &&& (7 : Int32)) (xsI st 4 i22 2 x2) with
                  | none => none
                  | some (_, st31) =>
                    match f_P_hold i15 v18 (some (i25)) st31 with
                    | none => none
                    | some (_, st34) =>
                      some (.inl (v18), st34)
                else
                  f_D_open_119 x3 (some (i15)) (some (i22)) v18 (some (i25)) (xsI st 4 i22 2 x2)
set_option maxRecDepth 100000 in
set_option maxHeartbeats 4000000 in
theorem v_D_open_66 {p : Program} {l : Launch} {e : Env} {s : State} {m : MethodId} {args : Array Value} {below : List Frame} {meth : Method} {c : Code} {D : va_G} {cA : Nat → ClassId} {g0 : Nat → Nat → Nat} {n0 : Nat → Nat} {r : Int32 ⊕ String} {st2 : XS} (C : x_C p e rm_D_open s m args meth c D cA (x_A g0 n0 s.heap.size) M_D_open.2.1 M_D_open.1 M_D_open.2.2.1) (hret : meth.sig.returnType = M_D_open.2.2.2.1) (hmn : meth.name = M_D_open.2.2.2.2.2) (hex : c.exceptionTable.toList.map (fun h => (h.startPc, h.endPc, h.handlerPc, h.catchType)) = M_D_open.2.2.2.2.1) (hfl : l.flags = flags0)  (x0 : Nat) (x2 : Int32) (x3 : Int32) (x4 : Option Nat) (x5 : Option Nat) (s0 : Option Nat) (st : XS) (h : f_D_open_66 x0 x2 x3 x4 x5 s0 st = some (r, st2)) : x_V p l e rm_D_open s m args below meth c D cA (x_A g0 n0 s.heap.size) M_D_open.2.2.1 g0 n0 (x_MQ D cA g0 n0 below s (xmc r) (xms r) (xth (fun v => some (xI v)) r) st2) 66 [(0, xR 0 (some (x0))), (2, xI (x2)), (3, xI (x3)), (4, xR 1 (x4)), (5, xR 4 (x5))] [xR 4 (s0)] st 0 0 := by
  unfold f_D_open_66 at h
  refine x_astore (pc := 66) (L2 := [(6, xR 4 (s0)), (0, xR 0 (some (x0))), (2, xI (x2)), (3, xI (x3)), (4, xR 1 (x4)), (5, xR 4 (x5))]) C (d_D_open 34 rfl) (by decide) rfl ?_
  refine x_aload (pc := 68) C (d_D_open 35 rfl) 4 rfl ?_
  refine x_iconst (pc := 70) (v := 0) C (by decide) (d_D_open 36 rfl) ?_
  cases c16 : x4 with
  | none => rw [c16] at h; cases h
  | some i15 =>
    rw [c16] at h
    dsimp only at h
    cases c17 : f_P_freeFrom i15 0 st with
    | none => rw [c17] at h; cases h
    | some v18 =>
      rw [c17] at h
      dsimp only at h
      refine x_callV (mc := 0) (ms := 0) (pc := 71) (bL := [xI (0)]) (K := []) C cs_D_108 (m_P_freeFrom l c17 : x_M l _ _ _ _ (.inl (some (xI v18))) _ 0 0) (by decide) rfl (Nat.le_of_ble_eq_true rfl) (d_D_open 37 rfl) ?_
      refine x_istore (pc := 74) (L2 := [(7, xI (v18)), (6, xR 4 (s0)), (0, xR 0 (some (x0))), (2, xI (x2)), (3, xI (x3)), (4, xR 1 (some (i15))), (5, xR 4 (x5))]) C (d_D_open 38 rfl) (by decide) rfl ?_
      refine x_aload_n (pc := 76) C (d_D_open 39 rfl) rfl 2 rfl ?_
      refine x_nullq (pc := 77) (q := 2) C (d_D_open 40 rfl) ?_
      cases c19 : f_D_freeOpening x0 (none) st with
      | none => rw [c19] at h; cases h
      | some v20 =>
        rw [c19] at h
        dsimp only at h
        refine x_callV (mc := 0) (ms := 0) (pc := 78) (bL := [xR 2 (none)]) (K := []) C cs_D_55 (m_D_freeOpening l c19 : x_M l _ _ _ _ (.inl (some (xR 2 v20))) _ 0 0) (by decide) rfl (Nat.le_of_ble_eq_true rfl) (d_D_open 41 rfl) ?_
        refine x_astore (pc := 81) (L2 := [(8, xR 2 (v20)), (7, xI (v18)), (6, xR 4 (s0)), (0, xR 0 (some (x0))), (2, xI (x2)), (3, xI (x3)), (4, xR 1 (some (i15))), (5, xR 4 (x5))]) C (d_D_open 42 rfl) (by decide) rfl ?_
        refine x_aload (pc := 83) C (d_D_open 43 rfl) 2 rfl ?_
        refine x_ifnull (pc := 85) (tgt := 98) C (d_D_open 44 rfl) (by decide) (fun c21 => ?_) (fun i22 c21 => ?_)
        · rw [c21] at h; try rw [c21]
          dsimp only at h
          refine x_bipush (pc := 98) (v := (-4)) C (by decide) (d_D_open 49 rfl) ?_
          cases h
          exact x_iret (pc := 100) C hret rfl (Nat.zero_le _) (Nat.zero_le _) (d_D_open 50 rfl)
        · rw [c21] at h; try rw [c21]
          dsimp only at h
          refine x_iload (pc := 88) C (d_D_open 45 rfl) 1 rfl ?_
          refine x_if_lt (pc := 90) (tgt := 98) C (d_D_open 46 rfl) (by decide) (fun c23 => ?_) (fun c23 => ?_)
          · rw [if_pos c23] at h
            refine x_bipush (pc := 98) (v := (-4)) C (by decide) (d_D_open 49 rfl) ?_
            cases h
            exact x_iret (pc := 100) C hret rfl (Nat.zero_le _) (Nat.zero_le _) (d_D_open 50 rfl)
          · rw [if_neg c23] at h
            refine x_aload (pc := 93) C (d_D_open 47 rfl) 0 rfl ?_
            refine x_ifnonnull (pc := 95) (tgt := 101) C (d_D_open 48 rfl) (by decide) (fun i25 c24 => ?_) (fun c24 => ?_)
            · rw [c24] at h; try rw [c24]
              dsimp only at h
              refine x_aload (pc := 101) C (d_D_open 51 rfl) 2 rfl ?_
              refine x_iload_n (pc := 103) C (d_D_open 52 rfl) rfl 4 rfl ?_
              refine x_putI (pc := 104) C fl_D_112 (pf_D_112 _) rfl ty_4_2 (d_D_open 53 rfl) ?_
              refine x_aload (pc := 107) C (d_D_open 54 rfl) 7 rfl ?_
              refine x_ifnull (pc := 109) (tgt := 119) C (d_D_open 55 rfl) (by decide) (fun c26 => ?_) (fun i27 c26 => ?_)
              · rw [c26] at h; try rw [c26]
                dsimp only at h
                exact x_sub [5, 6, 2, 1, 0] rfl (v_D_open_119 C hret hmn hex hfl _ _ _ _ _ _ h)
              · rw [c26] at h; try rw [c26]
                dsimp only at h
                refine x_iload_n (pc := 112) C (d_D_open 56 rfl) rfl 5 rfl ?_
                refine x_bipush (pc := 113) (v := 32) C (by decide) (d_D_open 57 rfl) ?_
                refine x_iand (pc := 115) C (d_D_open 58 rfl) ?_
                refine x_if_eq (pc := 116) (tgt := 125) C (d_D_open 59 rfl) (by decide) (fun c28 => ?_) (fun c28 => ?_)
                · rw [if_pos c28] at h
                  refine x_aload (pc := 125) C (d_D_open 63 rfl) 0 rfl ?_
                  refine x_nullq (pc := 127) (q := 3) C (d_D_open 64 rfl) ?_
                  refine x_aload (pc := 128) C (d_D_open 65 rfl) 2 rfl ?_
                  refine x_iload_n (pc := 130) C (d_D_open 66 rfl) rfl 5 rfl ?_
                  refine x_bipush (pc := 131) (v := 7) C (by decide) (d_D_open 67 rfl) ?_
                  refine x_iand (pc := 133) C (d_D_open 68 rfl) ?_
                  cases c29 : f_O_begin i25 (none) (some (i22)) (x3 &&& (7 : Int32)) (xsI st 4 i22 2 x2) with
                  | none => rw [c29] at h; cases h
                  | some w36 =>
                    obtain ⟨v30, st31⟩ := w36
                    rw [c29] at h
                    dsimp only at h
                    refine x_callV (mc := 0) (ms := 0) (pc := 134) (bL := [xR 3 (none), xR 4 (some (i22)), xI (x3 &&& (7 : Int32))]) (K := []) C cs_D_62 (m_O_begin l c29 : x_M l _ _ _ _ (.inl none) _ 0 0) (by decide) rfl (Nat.le_of_ble_eq_true rfl) (d_D_open 69 rfl) ?_
                    refine x_aload (pc := 137) C (d_D_open 70 rfl) 6 rfl ?_
                    refine x_iload (pc := 139) C (d_D_open 71 rfl) 1 rfl ?_
                    refine x_aload (pc := 141) C (d_D_open 72 rfl) 0 rfl ?_
                    cases c32 : f_P_hold i15 v18 (some (i25)) st31 with
                    | none => rw [c32] at h; cases h
                    | some w35 =>
                      obtain ⟨v33, st34⟩ := w35
                      rw [c32] at h
                      dsimp only at h
                      refine x_callV (mc := 0) (ms := 0) (pc := 143) (bL := [xI (v18), xR 2 (some (i25))]) (K := []) C cs_D_65 (m_P_hold l c32 : x_M l _ _ _ _ (.inl none) _ 0 0) (by decide) rfl (Nat.le_of_ble_eq_true rfl) (d_D_open 73 rfl) ?_
                      refine x_iload (pc := 146) C (d_D_open 74 rfl) 1 rfl ?_
                      cases h
                      exact x_iret (pc := 148) C hret rfl (Nat.zero_le _) (Nat.zero_le _) (d_D_open 75 rfl)
                · rw [if_neg c28] at h
                  exact x_sub [5, 6, 2, 1, 0] rfl (v_D_open_119 C hret hmn hex hfl _ _ _ _ _ _ h)
            · rw [c24] at h; try rw [c24]
              dsimp only at h
              refine x_bipush (pc := 98) (v := (-4)) C (by decide) (d_D_open 49 rfl) ?_
              cases h
              exact x_iret (pc := 100) C hret rfl (Nat.zero_le _) (Nat.zero_le _) (d_D_open 50 rfl)
def f_D_open_37  (x0 : Nat) (x2 : Int32) (x3 : Int32) (x4 : Option Nat) (x5 : Option Nat) (st : XS) : Option ((Int32 ⊕ String) × XS) :=
  match x5 with
  | none =>
    match f_D_freeFile x0 st with
    | none => none
    | some v44 =>
      f_D_open_66 x0 x2 x3 (x4) (none) (v44) st
  | some i40 =>
    if (x3 &&& (16 : Int32)) = 0 then
      f_D_open_66 x0 x2 x3 (x4) (some (i40)) (some (i40)) st
    else
      some (.inl ((-3)), st)
set_option maxRecDepth 100000 in
set_option maxHeartbeats 4000000 in
theorem v_D_open_37 {p : Program} {l : Launch} {e : Env} {s : State} {m : MethodId} {args : Array Value} {below : List Frame} {meth : Method} {c : Code} {D : va_G} {cA : Nat → ClassId} {g0 : Nat → Nat → Nat} {n0 : Nat → Nat} {r : Int32 ⊕ String} {st2 : XS} (C : x_C p e rm_D_open s m args meth c D cA (x_A g0 n0 s.heap.size) M_D_open.2.1 M_D_open.1 M_D_open.2.2.1) (hret : meth.sig.returnType = M_D_open.2.2.2.1) (hmn : meth.name = M_D_open.2.2.2.2.2) (hex : c.exceptionTable.toList.map (fun h => (h.startPc, h.endPc, h.handlerPc, h.catchType)) = M_D_open.2.2.2.2.1) (hfl : l.flags = flags0)  (x0 : Nat) (x2 : Int32) (x3 : Int32) (x4 : Option Nat) (x5 : Option Nat) (st : XS) (h : f_D_open_37 x0 x2 x3 x4 x5 st = some (r, st2)) : x_V p l e rm_D_open s m args below meth c D cA (x_A g0 n0 s.heap.size) M_D_open.2.2.1 g0 n0 (x_MQ D cA g0 n0 below s (xmc r) (xms r) (xth (fun v => some (xI v)) r) st2) 37 [(0, xR 0 (some (x0))), (2, xI (x2)), (3, xI (x3)), (4, xR 1 (x4)), (5, xR 4 (x5))] [] st 0 0 := by
  unfold f_D_open_37 at h
  refine x_aload (pc := 37) C (d_D_open 20 rfl) 4 rfl ?_
  refine x_ifnull (pc := 39) (tgt := 52) C (d_D_open 21 rfl) (by decide) (fun c39 => ?_) (fun i40 c39 => ?_)
  · rw [c39] at h; try rw [c39]
    dsimp only at h
    refine x_aload (pc := 52) C (d_D_open 28 rfl) 4 rfl ?_
    refine x_ifnull (pc := 54) (tgt := 62) C (d_D_open 29 rfl) (by decide) (fun c41 => ?_) (fun i42 c41 => by cases c41)
    refine x_aload_n (pc := 62) C (d_D_open 32 rfl) rfl 0 rfl ?_
    cases c43 : f_D_freeFile x0 st with
    | none => rw [c43] at h; cases h
    | some v44 =>
      rw [c43] at h
      dsimp only at h
      refine x_callV (mc := 0) (ms := 0) (pc := 63) (bL := []) (K := []) C cs_D_104 (m_D_freeFile l c43 : x_M l _ _ _ _ (.inl (some (xR 4 v44))) _ 0 0) (by decide) rfl (Nat.le_of_ble_eq_true rfl) (d_D_open 33 rfl) ?_
      exact x_sub [0, 1, 2, 3, 4] rfl (v_D_open_66 C hret hmn hex hfl _ _ _ _ _ _ _ h)
  · rw [c39] at h; try rw [c39]
    dsimp only at h
    refine x_iload_n (pc := 42) C (d_D_open 22 rfl) rfl 2 rfl ?_
    refine x_bipush (pc := 43) (v := 16) C (by decide) (d_D_open 23 rfl) ?_
    refine x_iand (pc := 45) C (d_D_open 24 rfl) ?_
    refine x_if_eq (pc := 46) (tgt := 52) C (d_D_open 25 rfl) (by decide) (fun c46 => ?_) (fun c46 => ?_)
    · rw [if_pos c46] at h
      refine x_aload (pc := 52) C (d_D_open 28 rfl) 4 rfl ?_
      refine x_ifnull (pc := 54) (tgt := 62) C (d_D_open 29 rfl) (by decide) (fun c47 => by cases c47) (fun i48 c47 => ?_)
      refine x_aload (pc := 57) C (d_D_open 30 rfl) 4 rfl ?_
      refine x_goto (pc := 59) (tgt := 66) C (d_D_open 31 rfl) (by decide) ?_
      exact x_sub [0, 1, 2, 3, 4] rfl (v_D_open_66 C hret hmn hex hfl _ _ _ _ _ _ _ h)
    · rw [if_neg c46] at h
      refine x_bipush (pc := 49) (v := (-3)) C (by decide) (d_D_open 26 rfl) ?_
      cases h
      exact x_iret (pc := 51) C hret rfl (Nat.zero_le _) (Nat.zero_le _) (d_D_open 27 rfl)
def f_D_open (x0 : Nat) (x1 : Int32) (x2 : Int32) (x3 : Int32) (st : XS) : Option ((Int32 ⊕ String) × XS) :=
  match f_D_readyProc x0 x1 st with
  | none => none
  | some (.inr e_66) => some (.inr e_66, st)
  | some (.inl v50) =>
    match f_D_checkName x2 st with
    | none => none
    | some (.inr e_64) => some (.inr e_64, st)
    | some (.inl _) =>
      match f_D_checkHow x3 st with
      | none => none
      | some (.inr e_62) => some (.inr e_62, st)
      | some (.inl _) =>
        match f_D_fileNamed x0 x2 st with
        | none => none
        | some v56 =>
          match v56 with
          | none =>
            if (x3 &&& (8 : Int32)) = 0 then
              some (.inl ((-2)), st)
            else
              f_D_open_37 x0 x2 x3 (v50) (none) st
          | some i58 =>
            f_D_open_37 x0 x2 x3 (v50) (some (i58)) st
set_option maxRecDepth 100000 in
set_option maxHeartbeats 4000000 in
theorem m_D_open (l : Launch) (hfl : l.flags = flags0) {x0 : Nat} {x1 : Int32} {x2 : Int32} {x3 : Int32} {st : XS} {r : Int32 ⊕ String} {st2 : XS} (h : f_D_open x0 x1 x2 x3 st = some (r, st2)) : x_M l M_D_open rm_D_open [xR 0 (some (x0)), xI (x1), xI (x2), xI (x3)] st (xth (fun v => some (xI v)) r) st2 (xmc r) (xms r) := by
  refine x_enter (Nat.le_of_ble_eq_true rfl) ?_
  intro p e s m below meth c D cA g args B C
  have hret := B.2.2.2.2.2.2.2.2.1
  have hmn := B.2.2.2.2.2.2.2.1
  have hex := B.2.2.2.2.2.2.2.2.2.1
  unfold f_D_open at h
  refine x_aload_n (pc := 0) C (d_D_open 0 rfl) rfl 0 rfl ?_
  refine x_iload_n (pc := 1) C (d_D_open 1 rfl) rfl 1 rfl ?_
  cases c49 : f_D_readyProc x0 x1 st with
  | none => rw [c49] at h; cases h
  | some w65 =>
    cases w65 with
    | inr e_66 =>
      rw [c49] at h
      dsimp only at h
      cases h
      exact x_callVt (mc := 1) (ms := 6) (pc := 2) (bL := [xI (x1)]) (K := []) C cs_D_69 (m_D_readyProc l hfl c49 : x_M l _ _ _ _ (.inr e_66) _ 1 6) (by decide) rfl (Nat.le_of_ble_eq_true rfl) (d_D_open 2 rfl) (x_out C (by rw [List.map_eq_nil_iff.mp hex]; intro x hx; cases hx) (Nat.le_refl 1) (Nat.le_refl 6))
    | inl v50 =>
      rw [c49] at h
      dsimp only at h
      refine x_callV (mc := 0) (ms := 0) (pc := 2) (bL := [xI (x1)]) (K := []) C cs_D_69 (m_D_readyProc l hfl c49 : x_M l _ _ _ _ (.inl (some (xR 1 v50))) _ 0 0) (by decide) rfl (Nat.le_of_ble_eq_true rfl) (d_D_open 2 rfl) ?_
      refine x_astore (pc := 5) (L2 := [(4, xR 1 (v50)), (0, xR 0 (some (x0))), (1, xI (x1)), (2, xI (x2)), (3, xI (x3))]) C (d_D_open 3 rfl) (by decide) rfl ?_
      refine x_iload_n (pc := 7) C (d_D_open 4 rfl) rfl 3 rfl ?_
      cases c51 : f_D_checkName x2 st with
      | none => rw [c51] at h; cases h
      | some w63 =>
        cases w63 with
        | inr e_64 =>
          rw [c51] at h
          dsimp only at h
          cases h
          exact x_callSt (mc := 1) (ms := 6) (pc := 8) (aL := [xI (x2)]) (K := []) C cs_D_93 (m_D_checkName l hfl c51 : x_M l _ _ _ _ (.inr e_64) _ 1 6) (by decide) rfl (Nat.le_of_ble_eq_true rfl) (d_D_open 5 rfl) (x_out C (by rw [List.map_eq_nil_iff.mp hex]; intro x hx; cases hx) (Nat.le_refl 1) (Nat.le_refl 6))
        | inl v52 =>
          rw [c51] at h
          dsimp only at h
          refine x_callS (mc := 0) (ms := 0) (pc := 8) (aL := [xI (x2)]) (K := []) C cs_D_93 (m_D_checkName l hfl c51 : x_M l _ _ _ _ (.inl none) _ 0 0) (by decide) rfl (Nat.le_of_ble_eq_true rfl) (d_D_open 5 rfl) ?_
          refine x_iload_n (pc := 11) C (d_D_open 6 rfl) rfl 4 rfl ?_
          cases c53 : f_D_checkHow x3 st with
          | none => rw [c53] at h; cases h
          | some w61 =>
            cases w61 with
            | inr e_62 =>
              rw [c53] at h
              dsimp only at h
              cases h
              exact x_callSt (mc := 1) (ms := 6) (pc := 12) (aL := [xI (x3)]) (K := []) C cs_D_97 (m_D_checkHow l hfl c53 : x_M l _ _ _ _ (.inr e_62) _ 1 6) (by decide) rfl (Nat.le_of_ble_eq_true rfl) (d_D_open 7 rfl) (x_out C (by rw [List.map_eq_nil_iff.mp hex]; intro x hx; cases hx) (Nat.le_refl 1) (Nat.le_refl 6))
            | inl v54 =>
              rw [c53] at h
              dsimp only at h
              refine x_callS (mc := 0) (ms := 0) (pc := 12) (aL := [xI (x3)]) (K := []) C cs_D_97 (m_D_checkHow l hfl c53 : x_M l _ _ _ _ (.inl none) _ 0 0) (by decide) rfl (Nat.le_of_ble_eq_true rfl) (d_D_open 7 rfl) ?_
              refine x_aload_n (pc := 15) C (d_D_open 8 rfl) rfl 1 rfl ?_
              refine x_iload_n (pc := 16) C (d_D_open 9 rfl) rfl 3 rfl ?_
              cases c55 : f_D_fileNamed x0 x2 st with
              | none => rw [c55] at h; cases h
              | some v56 =>
                rw [c55] at h
                dsimp only at h
                refine x_callV (mc := 0) (ms := 0) (pc := 17) (bL := [xI (x2)]) (K := []) C cs_D_100 (m_D_fileNamed l c55 : x_M l _ _ _ _ (.inl (some (xR 4 v56))) _ 0 0) (by decide) rfl (Nat.le_of_ble_eq_true rfl) (d_D_open 10 rfl) ?_
                refine x_astore (pc := 20) (L2 := [(5, xR 4 (v56)), (4, xR 1 (v50)), (0, xR 0 (some (x0))), (1, xI (x1)), (2, xI (x2)), (3, xI (x3))]) C (d_D_open 11 rfl) (by decide) rfl ?_
                refine x_aload (pc := 22) C (d_D_open 12 rfl) 0 rfl ?_
                refine x_ifnonnull (pc := 24) (tgt := 37) C (d_D_open 13 rfl) (by decide) (fun i58 c57 => ?_) (fun c57 => ?_)
                · rw [c57] at h; try rw [c57]
                  dsimp only at h
                  exact x_sub [2, 4, 5, 1, 0] rfl (v_D_open_37 C hret hmn hex hfl _ _ _ _ _ _ h)
                · rw [c57] at h; try rw [c57]
                  dsimp only at h
                  refine x_iload_n (pc := 27) C (d_D_open 14 rfl) rfl 5 rfl ?_
                  refine x_bipush (pc := 28) (v := 8) C (by decide) (d_D_open 15 rfl) ?_
                  refine x_iand (pc := 30) C (d_D_open 16 rfl) ?_
                  refine x_if_ne (pc := 31) (tgt := 37) C (d_D_open 17 rfl) (by decide) (fun c59 => ?_) (fun c59 => ?_)
                  · rw [if_neg c59] at h
                    exact x_sub [2, 4, 5, 1, 0] rfl (v_D_open_37 C hret hmn hex hfl _ _ _ _ _ _ h)
                  · rw [if_pos c59] at h
                    refine x_bipush (pc := 34) (v := (-2)) C (by decide) (d_D_open 18 rfl) ?_
                    cases h
                    exact x_iret (pc := 36) C hret rfl (Nat.zero_le _) (Nat.zero_le _) (d_D_open 19 rfl)
def f_D_freePipe_10  : Nat → Option Nat → Int32 → Int32 → XS → Option (Option Nat)
  | 0, _, _, _, _ => none
  | n + 1, x1, x2, x3, st =>
    if x2 ≤ x3 then
      some (none)
    else
      match x1 with
      | none => none
      | some i2 =>
        if x_in x3 6 then
          match st.2.2.1 8 i2 x3.toNatClampNeg with
          | none => none
          | some i5 =>
            match f_I_isThere i5 st with
            | none => none
            | some v8 =>
              if v8 = 0 then
                some (some (i5))
              else
                f_D_freePipe_10 n (some (i2)) x2 (x3 + 1) st
        else none
set_option maxRecDepth 100000 in
set_option maxHeartbeats 4000000 in
theorem v_D_freePipe_10 {p : Program} {l : Launch} {e : Env} {s : State} {m : MethodId} {args : Array Value} {below : List Frame} {meth : Method} {c : Code} {D : va_G} {cA : Nat → ClassId} {g0 : Nat → Nat → Nat} {n0 : Nat → Nat} {r : Option Nat} (C : x_C p e rm_D_freePipe s m args meth c D cA (x_A g0 n0 s.heap.size) M_D_freePipe.2.1 M_D_freePipe.1 M_D_freePipe.2.2.1) (hret : meth.sig.returnType = M_D_freePipe.2.2.2.1) (hmn : meth.name = M_D_freePipe.2.2.2.2.2) (hex : c.exceptionTable.toList.map (fun h => (h.startPc, h.endPc, h.handlerPc, h.catchType)) = M_D_freePipe.2.2.2.2.1)  : ∀ (n : Nat) (x1 : Option Nat) (x2 : Int32) (x3 : Int32) (st : XS), f_D_freePipe_10 n x1 x2 x3 st = some r → x_V p l e rm_D_freePipe s m args below meth c D cA (x_A g0 n0 s.heap.size) M_D_freePipe.2.2.1 g0 n0 (x_MQ D cA g0 n0 below s 0 0 (.inl (some (xR 3 r))) st) 10 [(1, xR 8 (x1)), (2, xI (x2)), (3, xI (x3))] [] st 0 0 := by
  intro n
  induction n with
  | zero => intro x1 x2 x3 st h; cases h
  | succ n ih =>
    intro x1 x2 x3 st h
    rw [f_D_freePipe_10.eq_def] at h
    dsimp only at h
    refine x_iload_n (pc := 10) C (d_D_freePipe 8 rfl) rfl 2 rfl ?_
    refine x_iload_n (pc := 11) C (d_D_freePipe 9 rfl) rfl 1 rfl ?_
    refine x_icmp_ge (pc := 12) (tgt := 37) C (d_D_freePipe 10 rfl) (by decide) (fun c1 => ?_) (fun c1 => ?_)
    · rw [if_pos c1] at h
      refine x_nullq (pc := 37) (q := 3) C (d_D_freePipe 22 rfl) ?_
      cases h
      exact x_aret (pc := 38) C hret (Or.inl ⟨_, rfl⟩) (Nat.zero_le _) (Nat.zero_le _) (d_D_freePipe 23 rfl)
    · rw [if_neg c1] at h
      refine x_aload_n (pc := 15) C (d_D_freePipe 11 rfl) rfl 0 rfl ?_
      refine x_iload_n (pc := 16) C (d_D_freePipe 12 rfl) rfl 2 rfl ?_
      cases c3 : x1 with
      | none => rw [c3] at h; cases h
      | some i2 =>
        rw [c3] at h
        dsimp only at h
        by_cases b4 : x_in x3 6
        · rw [if_pos b4] at h
          refine x_aald (pc := 17) C ar_8 b4 (d_D_freePipe 13 rfl) ?_
          refine x_astore (pc := 18) (L2 := [(4, xR 3 (st.2.2.1 8 i2 x3.toNatClampNeg)), (1, xR 8 (some (i2))), (2, xI (x2)), (3, xI (x3))]) C (d_D_freePipe 14 rfl) (by decide) rfl ?_
          refine x_aload (pc := 20) C (d_D_freePipe 15 rfl) 0 rfl ?_
          cases c6 : st.2.2.1 8 i2 x3.toNatClampNeg with
          | none => rw [c6] at h; cases h
          | some i5 =>
            rw [c6] at h
            dsimp only at h
            cases c7 : f_I_isThere i5 st with
            | none => rw [c7] at h; cases h
            | some v8 =>
              rw [c7] at h
              dsimp only at h
              refine x_callV (mc := 0) (ms := 0) (pc := 22) (bL := []) (K := []) C cs_D_237 (m_I_isThere l c7 : x_M l _ _ _ _ (.inl (some (xI v8))) _ 0 0) (by decide) rfl (Nat.le_of_ble_eq_true rfl) (d_D_freePipe 16 rfl) ?_
              refine x_if_ne (pc := 25) (tgt := 31) C (d_D_freePipe 17 rfl) (by decide) (fun c9 => ?_) (fun c9 => ?_)
              · rw [if_neg c9] at h
                refine x_iinc (pc := 31) (v := x3 + 1) (L2 := [(3, xI (x3 + 1)), (4, xR 3 (some (i5))), (1, xR 8 (some (i2))), (2, xI (x2))]) C (d_D_freePipe 20 rfl) 3 rfl rfl (by decide) rfl ?_
                refine x_goto (pc := 34) (tgt := 10) C (d_D_freePipe 21 rfl) (by decide) ?_
                exact x_sub [2, 3, 0] rfl (ih _ _ _ _ h)
              · rw [if_pos c9] at h
                refine x_aload (pc := 28) C (d_D_freePipe 18 rfl) 0 rfl ?_
                cases h
                exact x_aret (pc := 30) C hret (Or.inl ⟨_, rfl⟩) (Nat.zero_le _) (Nat.zero_le _) (d_D_freePipe 19 rfl)
        · rw [if_neg b4] at h; cases h
def f_D_freePipe (x0 : Nat) (st : XS) : Option (Option Nat) :=
  match st.2.2.1 0 x0 2 with
  | none => none
  | some i11 =>
    f_D_freePipe_10 100 (some (i11)) 6 0 st
set_option maxRecDepth 100000 in
set_option maxHeartbeats 4000000 in
theorem m_D_freePipe (l : Launch) {x0 : Nat} {st : XS} {r : Option Nat} (h : f_D_freePipe x0 st = some r) : x_M l M_D_freePipe rm_D_freePipe [xR 0 (some (x0))] st (.inl (some (xR 3 r))) st 0 0 := by
  refine x_enter (Nat.le_of_ble_eq_true rfl) ?_
  intro p e s m below meth c D cA g args B C
  have hret := B.2.2.2.2.2.2.2.2.1
  have hmn := B.2.2.2.2.2.2.2.1
  have hex := B.2.2.2.2.2.2.2.2.2.1
  unfold f_D_freePipe at h
  refine x_aload_n (pc := 0) C (d_D_freePipe 0 rfl) rfl 0 rfl ?_
  refine x_getR (pc := 1) (t := 8) C fl_D_23 rfl rfl (d_D_freePipe 1 rfl) ?_
  refine x_astore_n (pc := 4) (L2 := [(1, xR 8 (st.2.2.1 0 x0 2)), (0, xR 0 (some (x0)))]) C (d_D_freePipe 2 rfl) rfl (by decide) rfl ?_
  refine x_aload_n (pc := 5) C (d_D_freePipe 3 rfl) rfl 0 rfl ?_
  cases c12 : st.2.2.1 0 x0 2 with
  | none => rw [c12] at h; cases h
  | some i11 =>
    rw [c12] at h
    dsimp only at h
    refine x_alen (pc := 6) (v := 6) C ar_8 rfl (d_D_freePipe 4 rfl) ?_
    refine x_istore_n (pc := 7) (L2 := [(2, xI (6)), (1, xR 8 (some (i11))), (0, xR 0 (some (x0)))]) C (d_D_freePipe 5 rfl) rfl (by decide) rfl ?_
    refine x_iconst (pc := 8) (v := 0) C (by decide) (d_D_freePipe 6 rfl) ?_
    refine x_istore_n (pc := 9) (L2 := [(3, xI (0)), (2, xI (6)), (1, xR 8 (some (i11))), (0, xR 0 (some (x0)))]) C (d_D_freePipe 7 rfl) rfl (by decide) rfl ?_
    exact x_sub [2, 1, 0] rfl (v_D_freePipe_10 C hret hmn hex 100 _ _ _ _ h)
def f_D_pipe (x0 : Nat) (x1 : Int32) (st : XS) : Option ((Int32 ⊕ String) × XS) :=
  match f_D_readyProc x0 x1 st with
  | none => none
  | some (.inr e_45) => some (.inr e_45, st)
  | some (.inl v2) =>
    match v2 with
    | none => none
    | some i3 =>
      match f_P_freeFrom i3 0 st with
      | none => none
      | some v6 =>
        match f_P_freeFrom i3 (v6 + (1 : Int32)) st with
        | none => none
        | some v8 =>
          match f_D_freeOpening x0 (none) st with
          | none => none
          | some v10 =>
            match f_D_freeOpening x0 (v10) st with
            | none => none
            | some v12 =>
              match f_D_freePipe x0 st with
              | none => none
              | some v14 =>
                if v6 < 0 then
                  some (.inl ((-4)), st)
                else
                  if v8 < 0 then
                    some (.inl ((-4)), st)
                  else
                    match v10 with
                    | none =>
                      some (.inl ((-4)), st)
                    | some i18 =>
                      match v12 with
                      | none =>
                        some (.inl ((-4)), st)
                      | some i20 =>
                        match v14 with
                        | none =>
                          some (.inl ((-4)), st)
                        | some i22 =>
                          match f_O_begin i18 (some (i22)) (none) 1 st with
                          | none => none
                          | some (_, st25) =>
                            match f_O_begin i20 (some (i22)) (none) 2 st25 with
                            | none => none
                            | some (_, st28) =>
                              match f_P_hold i3 v6 (some (i18)) st28 with
                              | none => none
                              | some (_, st31) =>
                                match f_P_hold i3 v8 (some (i20)) st31 with
                                | none => none
                                | some (_, st34) =>
                                  some (.inl (v6 + ((8 : Int32) * v8)), st34)
set_option maxRecDepth 100000 in
set_option maxHeartbeats 4000000 in
theorem m_D_pipe (l : Launch) (hfl : l.flags = flags0) {x0 : Nat} {x1 : Int32} {st : XS} {r : Int32 ⊕ String} {st2 : XS} (h : f_D_pipe x0 x1 st = some (r, st2)) : x_M l M_D_pipe rm_D_pipe [xR 0 (some (x0)), xI (x1)] st (xth (fun v => some (xI v)) r) st2 (xmc r) (xms r) := by
  refine x_enter (Nat.le_of_ble_eq_true rfl) ?_
  intro p e s m below meth c D cA g args B C
  have hret := B.2.2.2.2.2.2.2.2.1
  have hmn := B.2.2.2.2.2.2.2.1
  have hex := B.2.2.2.2.2.2.2.2.2.1
  unfold f_D_pipe at h
  refine x_aload_n (pc := 0) C (d_D_pipe 0 rfl) rfl 0 rfl ?_
  refine x_iload_n (pc := 1) C (d_D_pipe 1 rfl) rfl 1 rfl ?_
  cases c1 : f_D_readyProc x0 x1 st with
  | none => rw [c1] at h; cases h
  | some w44 =>
    cases w44 with
    | inr e_45 =>
      rw [c1] at h
      dsimp only at h
      cases h
      exact x_callVt (mc := 1) (ms := 6) (pc := 2) (bL := [xI (x1)]) (K := []) C cs_D_69 (m_D_readyProc l hfl c1 : x_M l _ _ _ _ (.inr e_45) _ 1 6) (by decide) rfl (Nat.le_of_ble_eq_true rfl) (d_D_pipe 2 rfl) (x_out C (by rw [List.map_eq_nil_iff.mp hex]; intro x hx; cases hx) (Nat.le_refl 1) (Nat.le_refl 6))
    | inl v2 =>
      rw [c1] at h
      dsimp only at h
      refine x_callV (mc := 0) (ms := 0) (pc := 2) (bL := [xI (x1)]) (K := []) C cs_D_69 (m_D_readyProc l hfl c1 : x_M l _ _ _ _ (.inl (some (xR 1 v2))) _ 0 0) (by decide) rfl (Nat.le_of_ble_eq_true rfl) (d_D_pipe 2 rfl) ?_
      refine x_astore_n (pc := 5) (L2 := [(2, xR 1 (v2)), (0, xR 0 (some (x0))), (1, xI (x1))]) C (d_D_pipe 3 rfl) rfl (by decide) rfl ?_
      refine x_aload_n (pc := 6) C (d_D_pipe 4 rfl) rfl 0 rfl ?_
      refine x_iconst (pc := 7) (v := 0) C (by decide) (d_D_pipe 5 rfl) ?_
      cases c4 : v2 with
      | none => rw [c4] at h; cases h
      | some i3 =>
        rw [c4] at h
        dsimp only at h
        cases c5 : f_P_freeFrom i3 0 st with
        | none => rw [c5] at h; cases h
        | some v6 =>
          rw [c5] at h
          dsimp only at h
          refine x_callV (mc := 0) (ms := 0) (pc := 8) (bL := [xI (0)]) (K := []) C cs_D_108 (m_P_freeFrom l c5 : x_M l _ _ _ _ (.inl (some (xI v6))) _ 0 0) (by decide) rfl (Nat.le_of_ble_eq_true rfl) (d_D_pipe 6 rfl) ?_
          refine x_istore_n (pc := 11) (L2 := [(3, xI (v6)), (2, xR 1 (some (i3))), (0, xR 0 (some (x0))), (1, xI (x1))]) C (d_D_pipe 7 rfl) rfl (by decide) rfl ?_
          refine x_aload_n (pc := 12) C (d_D_pipe 8 rfl) rfl 1 rfl ?_
          refine x_iload_n (pc := 13) C (d_D_pipe 9 rfl) rfl 0 rfl ?_
          refine x_iconst (pc := 14) (v := 1) C (by decide) (d_D_pipe 10 rfl) ?_
          refine x_iadd (pc := 15) C (d_D_pipe 11 rfl) ?_
          cases c7 : f_P_freeFrom i3 (v6 + (1 : Int32)) st with
          | none => rw [c7] at h; cases h
          | some v8 =>
            rw [c7] at h
            dsimp only at h
            refine x_callV (mc := 0) (ms := 0) (pc := 16) (bL := [xI (v6 + (1 : Int32))]) (K := []) C cs_D_108 (m_P_freeFrom l c7 : x_M l _ _ _ _ (.inl (some (xI v8))) _ 0 0) (by decide) rfl (Nat.le_of_ble_eq_true rfl) (d_D_pipe 12 rfl) ?_
            refine x_istore (pc := 19) (L2 := [(4, xI (v8)), (3, xI (v6)), (2, xR 1 (some (i3))), (0, xR 0 (some (x0))), (1, xI (x1))]) C (d_D_pipe 13 rfl) (by decide) rfl ?_
            refine x_aload_n (pc := 21) C (d_D_pipe 14 rfl) rfl 3 rfl ?_
            refine x_nullq (pc := 22) (q := 2) C (d_D_pipe 15 rfl) ?_
            cases c9 : f_D_freeOpening x0 (none) st with
            | none => rw [c9] at h; cases h
            | some v10 =>
              rw [c9] at h
              dsimp only at h
              refine x_callV (mc := 0) (ms := 0) (pc := 23) (bL := [xR 2 (none)]) (K := []) C cs_D_55 (m_D_freeOpening l c9 : x_M l _ _ _ _ (.inl (some (xR 2 v10))) _ 0 0) (by decide) rfl (Nat.le_of_ble_eq_true rfl) (d_D_pipe 16 rfl) ?_
              refine x_astore (pc := 26) (L2 := [(5, xR 2 (v10)), (4, xI (v8)), (3, xI (v6)), (2, xR 1 (some (i3))), (0, xR 0 (some (x0))), (1, xI (x1))]) C (d_D_pipe 17 rfl) (by decide) rfl ?_
              refine x_aload_n (pc := 28) C (d_D_pipe 18 rfl) rfl 4 rfl ?_
              refine x_aload (pc := 29) C (d_D_pipe 19 rfl) 0 rfl ?_
              cases c11 : f_D_freeOpening x0 (v10) st with
              | none => rw [c11] at h; cases h
              | some v12 =>
                rw [c11] at h
                dsimp only at h
                refine x_callV (mc := 0) (ms := 0) (pc := 31) (bL := [xR 2 (v10)]) (K := []) C cs_D_55 (m_D_freeOpening l c11 : x_M l _ _ _ _ (.inl (some (xR 2 v12))) _ 0 0) (by decide) rfl (Nat.le_of_ble_eq_true rfl) (d_D_pipe 20 rfl) ?_
                refine x_astore (pc := 34) (L2 := [(6, xR 2 (v12)), (5, xR 2 (v10)), (4, xI (v8)), (3, xI (v6)), (2, xR 1 (some (i3))), (0, xR 0 (some (x0))), (1, xI (x1))]) C (d_D_pipe 21 rfl) (by decide) rfl ?_
                refine x_aload_n (pc := 36) C (d_D_pipe 22 rfl) rfl 5 rfl ?_
                cases c13 : f_D_freePipe x0 st with
                | none => rw [c13] at h; cases h
                | some v14 =>
                  rw [c13] at h
                  dsimp only at h
                  refine x_callV (mc := 0) (ms := 0) (pc := 37) (bL := []) (K := []) C cs_D_118 (m_D_freePipe l c13 : x_M l _ _ _ _ (.inl (some (xR 3 v14))) _ 0 0) (by decide) rfl (Nat.le_of_ble_eq_true rfl) (d_D_pipe 23 rfl) ?_
                  refine x_astore (pc := 40) (L2 := [(7, xR 3 (v14)), (6, xR 2 (v12)), (5, xR 2 (v10)), (4, xI (v8)), (3, xI (v6)), (2, xR 1 (some (i3))), (0, xR 0 (some (x0))), (1, xI (x1))]) C (d_D_pipe 24 rfl) (by decide) rfl ?_
                  refine x_iload_n (pc := 42) C (d_D_pipe 25 rfl) rfl 4 rfl ?_
                  refine x_if_lt (pc := 43) (tgt := 66) C (d_D_pipe 26 rfl) (by decide) (fun c15 => ?_) (fun c15 => ?_)
                  · rw [if_pos c15] at h
                    refine x_bipush (pc := 66) (v := (-4)) C (by decide) (d_D_pipe 35 rfl) ?_
                    cases h
                    exact x_iret (pc := 68) C hret rfl (Nat.zero_le _) (Nat.zero_le _) (d_D_pipe 36 rfl)
                  · rw [if_neg c15] at h
                    refine x_iload (pc := 46) C (d_D_pipe 27 rfl) 3 rfl ?_
                    refine x_if_lt (pc := 48) (tgt := 66) C (d_D_pipe 28 rfl) (by decide) (fun c16 => ?_) (fun c16 => ?_)
                    · rw [if_pos c16] at h
                      refine x_bipush (pc := 66) (v := (-4)) C (by decide) (d_D_pipe 35 rfl) ?_
                      cases h
                      exact x_iret (pc := 68) C hret rfl (Nat.zero_le _) (Nat.zero_le _) (d_D_pipe 36 rfl)
                    · rw [if_neg c16] at h
                      refine x_aload (pc := 51) C (d_D_pipe 29 rfl) 2 rfl ?_
                      refine x_ifnull (pc := 53) (tgt := 66) C (d_D_pipe 30 rfl) (by decide) (fun c17 => ?_) (fun i18 c17 => ?_)
                      · rw [c17] at h; try rw [c17]
                        dsimp only at h
                        refine x_bipush (pc := 66) (v := (-4)) C (by decide) (d_D_pipe 35 rfl) ?_
                        cases h
                        exact x_iret (pc := 68) C hret rfl (Nat.zero_le _) (Nat.zero_le _) (d_D_pipe 36 rfl)
                      · rw [c17] at h; try rw [c17]
                        dsimp only at h
                        refine x_aload (pc := 56) C (d_D_pipe 31 rfl) 1 rfl ?_
                        refine x_ifnull (pc := 58) (tgt := 66) C (d_D_pipe 32 rfl) (by decide) (fun c19 => ?_) (fun i20 c19 => ?_)
                        · rw [c19] at h; try rw [c19]
                          dsimp only at h
                          refine x_bipush (pc := 66) (v := (-4)) C (by decide) (d_D_pipe 35 rfl) ?_
                          cases h
                          exact x_iret (pc := 68) C hret rfl (Nat.zero_le _) (Nat.zero_le _) (d_D_pipe 36 rfl)
                        · rw [c19] at h; try rw [c19]
                          dsimp only at h
                          refine x_aload (pc := 61) C (d_D_pipe 33 rfl) 0 rfl ?_
                          refine x_ifnonnull (pc := 63) (tgt := 69) C (d_D_pipe 34 rfl) (by decide) (fun i22 c21 => ?_) (fun c21 => ?_)
                          · rw [c21] at h; try rw [c21]
                            dsimp only at h
                            refine x_aload (pc := 69) C (d_D_pipe 37 rfl) 2 rfl ?_
                            refine x_aload (pc := 71) C (d_D_pipe 38 rfl) 0 rfl ?_
                            refine x_nullq (pc := 73) (q := 4) C (d_D_pipe 39 rfl) ?_
                            refine x_iconst (pc := 74) (v := 1) C (by decide) (d_D_pipe 40 rfl) ?_
                            cases c23 : f_O_begin i18 (some (i22)) (none) 1 st with
                            | none => rw [c23] at h; cases h
                            | some w38 =>
                              obtain ⟨v24, st25⟩ := w38
                              rw [c23] at h
                              dsimp only at h
                              refine x_callV (mc := 0) (ms := 0) (pc := 75) (bL := [xR 3 (some (i22)), xR 4 (none), xI (1)]) (K := []) C cs_D_62 (m_O_begin l c23 : x_M l _ _ _ _ (.inl none) _ 0 0) (by decide) rfl (Nat.le_of_ble_eq_true rfl) (d_D_pipe 41 rfl) ?_
                              refine x_aload (pc := 78) C (d_D_pipe 42 rfl) 1 rfl ?_
                              refine x_aload (pc := 80) C (d_D_pipe 43 rfl) 0 rfl ?_
                              refine x_nullq (pc := 82) (q := 4) C (d_D_pipe 44 rfl) ?_
                              refine x_iconst (pc := 83) (v := 2) C (by decide) (d_D_pipe 45 rfl) ?_
                              cases c26 : f_O_begin i20 (some (i22)) (none) 2 st25 with
                              | none => rw [c26] at h; cases h
                              | some w37 =>
                                obtain ⟨v27, st28⟩ := w37
                                rw [c26] at h
                                dsimp only at h
                                refine x_callV (mc := 0) (ms := 0) (pc := 84) (bL := [xR 3 (some (i22)), xR 4 (none), xI (2)]) (K := []) C cs_D_62 (m_O_begin l c26 : x_M l _ _ _ _ (.inl none) _ 0 0) (by decide) rfl (Nat.le_of_ble_eq_true rfl) (d_D_pipe 46 rfl) ?_
                                refine x_aload_n (pc := 87) C (d_D_pipe 47 rfl) rfl 5 rfl ?_
                                refine x_iload_n (pc := 88) C (d_D_pipe 48 rfl) rfl 4 rfl ?_
                                refine x_aload (pc := 89) C (d_D_pipe 49 rfl) 2 rfl ?_
                                cases c29 : f_P_hold i3 v6 (some (i18)) st28 with
                                | none => rw [c29] at h; cases h
                                | some w36 =>
                                  obtain ⟨v30, st31⟩ := w36
                                  rw [c29] at h
                                  dsimp only at h
                                  refine x_callV (mc := 0) (ms := 0) (pc := 91) (bL := [xI (v6), xR 2 (some (i18))]) (K := []) C cs_D_65 (m_P_hold l c29 : x_M l _ _ _ _ (.inl none) _ 0 0) (by decide) rfl (Nat.le_of_ble_eq_true rfl) (d_D_pipe 50 rfl) ?_
                                  refine x_aload_n (pc := 94) C (d_D_pipe 51 rfl) rfl 5 rfl ?_
                                  refine x_iload (pc := 95) C (d_D_pipe 52 rfl) 3 rfl ?_
                                  refine x_aload (pc := 97) C (d_D_pipe 53 rfl) 1 rfl ?_
                                  cases c32 : f_P_hold i3 v8 (some (i20)) st31 with
                                  | none => rw [c32] at h; cases h
                                  | some w35 =>
                                    obtain ⟨v33, st34⟩ := w35
                                    rw [c32] at h
                                    dsimp only at h
                                    refine x_callV (mc := 0) (ms := 0) (pc := 99) (bL := [xI (v8), xR 2 (some (i20))]) (K := []) C cs_D_65 (m_P_hold l c32 : x_M l _ _ _ _ (.inl none) _ 0 0) (by decide) rfl (Nat.le_of_ble_eq_true rfl) (d_D_pipe 54 rfl) ?_
                                    refine x_iload_n (pc := 102) C (d_D_pipe 55 rfl) rfl 4 rfl ?_
                                    refine x_bipush (pc := 103) (v := 8) C (by decide) (d_D_pipe 56 rfl) ?_
                                    refine x_iload (pc := 105) C (d_D_pipe 57 rfl) 3 rfl ?_
                                    refine x_imul (pc := 107) C (d_D_pipe 58 rfl) ?_
                                    refine x_iadd (pc := 108) C (d_D_pipe 59 rfl) ?_
                                    cases h
                                    exact x_iret (pc := 109) C hret rfl (Nat.zero_le _) (Nat.zero_le _) (d_D_pipe 60 rfl)
                          · rw [c21] at h; try rw [c21]
                            dsimp only at h
                            refine x_bipush (pc := 66) (v := (-4)) C (by decide) (d_D_pipe 35 rfl) ?_
                            cases h
                            exact x_iret (pc := 68) C hret rfl (Nat.zero_le _) (Nat.zero_le _) (d_D_pipe 36 rfl)
def f_D_checkAmount (x0 : Int32) (st : XS) : Option (Unit ⊕ String) :=
  if x0 < 0 then
    some (.inr "java/lang/IllegalArgumentException")
  else
    if x0 ≤ 8 then
      some (.inl (()))
    else
      some (.inr "java/lang/IllegalArgumentException")
set_option maxRecDepth 100000 in
set_option maxHeartbeats 4000000 in
theorem m_D_checkAmount (l : Launch) (hfl : l.flags = flags0) {x0 : Int32} {st : XS} {r : Unit ⊕ String} (h : f_D_checkAmount x0 st = some r) : x_M l M_D_checkAmount rm_D_checkAmount [xI (x0)] st (xth (fun _ => none) r) st (xmc r) (xms r) := by
  refine x_enter (Nat.le_of_ble_eq_true rfl) ?_
  intro p e s m below meth c D cA g args B C
  have hret := B.2.2.2.2.2.2.2.2.1
  have hmn := B.2.2.2.2.2.2.2.1
  have hex := B.2.2.2.2.2.2.2.2.2.1
  unfold f_D_checkAmount at h
  refine x_iload_n (pc := 0) C (d_D_checkAmount 0 rfl) rfl 0 rfl ?_
  refine x_if_lt (pc := 1) (tgt := 10) C (d_D_checkAmount 1 rfl) (by decide) (fun c1 => ?_) (fun c1 => ?_)
  · rw [if_pos c1] at h
    cases h
    exact x_throw (pc := 10) (tx := "n is not 0 .. 8") C hfl w_449 w_450 w_12 (by decide +kernel) oa_D_155 (by decide +kernel) hex (Nat.le_of_ble_eq_true rfl) (by decide) (by decide) (Nat.le_refl 1) (Nat.le_refl 6) (by decide) (by decide) (d_D_checkAmount 5 rfl) (d_D_checkAmount 6 rfl) (d_D_checkAmount 7 rfl) (d_D_checkAmount 8 rfl) (d_D_checkAmount 9 rfl)
  · rw [if_neg c1] at h
    refine x_iload_n (pc := 4) C (d_D_checkAmount 2 rfl) rfl 0 rfl ?_
    refine x_bipush (pc := 5) (v := 8) C (by decide) (d_D_checkAmount 3 rfl) ?_
    refine x_icmp_le (pc := 7) (tgt := 20) C (d_D_checkAmount 4 rfl) (by decide) (fun c2 => ?_) (fun c2 => ?_)
    · rw [if_pos c2] at h
      cases h
      exact x_vret (pc := 20) C hret (Nat.zero_le _) (Nat.zero_le _) (d_D_checkAmount 10 rfl)
    · rw [if_neg c2] at h
      cases h
      exact x_throw (pc := 10) (tx := "n is not 0 .. 8") C hfl w_449 w_450 w_12 (by decide +kernel) oa_D_155 (by decide +kernel) hex (Nat.le_of_ble_eq_true rfl) (by decide) (by decide) (Nat.le_refl 1) (Nat.le_refl 6) (by decide) (by decide) (d_D_checkAmount 5 rfl) (d_D_checkAmount 6 rfl) (d_D_checkAmount 7 rfl) (d_D_checkAmount 8 rfl) (d_D_checkAmount 9 rfl)
def f_D_takeFromPipe_15  : Nat → Option Nat → Option Nat → Int32 → Int32 → XS → Option (Int32 × XS)
  | 0, _, _, _, _, _ => none
  | n + 1, x0, x1, x3, x4, st =>
    if x3 ≤ x4 then
      some (x3, st)
    else
      match x1 with
      | none => none
      | some i2 =>
        match st.2.2.1 3 i2 0 with
        | none => none
        | some i4 =>
          match f_B_takeFirst i4 st with
          | none => none
          | some (v7, st8) =>
            match x0 with
            | none => none
            | some i9 =>
              match f_P_getByte i9 v7 st8 with
              | none => none
              | some (_, st13) =>
                f_D_takeFromPipe_15 n (some (i9)) (some (i2)) x3 (x4 + 1) st13
set_option maxRecDepth 100000 in
set_option maxHeartbeats 4000000 in
theorem v_D_takeFromPipe_15 {p : Program} {l : Launch} {e : Env} {s : State} {m : MethodId} {args : Array Value} {below : List Frame} {meth : Method} {c : Code} {D : va_G} {cA : Nat → ClassId} {g0 : Nat → Nat → Nat} {n0 : Nat → Nat} {r : Int32} {st2 : XS} (C : x_C p e rm_D_takeFromPipe s m args meth c D cA (x_A g0 n0 s.heap.size) M_D_takeFromPipe.2.1 M_D_takeFromPipe.1 M_D_takeFromPipe.2.2.1) (hret : meth.sig.returnType = M_D_takeFromPipe.2.2.2.1) (hmn : meth.name = M_D_takeFromPipe.2.2.2.2.2) (hex : c.exceptionTable.toList.map (fun h => (h.startPc, h.endPc, h.handlerPc, h.catchType)) = M_D_takeFromPipe.2.2.2.2.1)  : ∀ (n : Nat) (x0 : Option Nat) (x1 : Option Nat) (x3 : Int32) (x4 : Int32) (st : XS), f_D_takeFromPipe_15 n x0 x1 x3 x4 st = some (r, st2) → x_V p l e rm_D_takeFromPipe s m args below meth c D cA (x_A g0 n0 s.heap.size) M_D_takeFromPipe.2.2.1 g0 n0 (x_MQ D cA g0 n0 below s 0 0 (.inl (some (xI r))) st2) 15 [(0, xR 1 (x0)), (1, xR 3 (x1)), (3, xI (x3)), (4, xI (x4))] [] st 0 0 := by
  intro n
  induction n with
  | zero => intro x0 x1 x3 x4 st h; cases h
  | succ n ih =>
    intro x0 x1 x3 x4 st h
    rw [f_D_takeFromPipe_15.eq_def] at h
    dsimp only at h
    refine x_iload (pc := 15) C (d_D_takeFromPipe 8 rfl) 3 rfl ?_
    refine x_iload_n (pc := 17) C (d_D_takeFromPipe 9 rfl) rfl 2 rfl ?_
    refine x_icmp_ge (pc := 18) (tgt := 38) C (d_D_takeFromPipe 10 rfl) (by decide) (fun c1 => ?_) (fun c1 => ?_)
    · rw [if_pos c1] at h
      refine x_iload_n (pc := 38) C (d_D_takeFromPipe 18 rfl) rfl 2 rfl ?_
      cases h
      exact x_iret (pc := 39) C hret rfl (Nat.zero_le _) (Nat.zero_le _) (d_D_takeFromPipe 19 rfl)
    · rw [if_neg c1] at h
      refine x_aload_n (pc := 21) C (d_D_takeFromPipe 11 rfl) rfl 0 rfl ?_
      refine x_aload_n (pc := 22) C (d_D_takeFromPipe 12 rfl) rfl 1 rfl ?_
      cases c3 : x1 with
      | none => rw [c3] at h; cases h
      | some i2 =>
        rw [c3] at h
        dsimp only at h
        refine x_getR (pc := 23) (t := 5) C fl_D_250 rfl rfl (d_D_takeFromPipe 13 rfl) ?_
        cases c5 : st.2.2.1 3 i2 0 with
        | none => rw [c5] at h; cases h
        | some i4 =>
          rw [c5] at h
          dsimp only at h
          cases c6 : f_B_takeFirst i4 st with
          | none => rw [c6] at h; cases h
          | some w15 =>
            obtain ⟨v7, st8⟩ := w15
            rw [c6] at h
            dsimp only at h
            refine x_callV (mc := 0) (ms := 0) (pc := 26) (bL := []) (K := [xR 1 (x0)]) C cs_D_281 (m_B_takeFirst l c6 : x_M l _ _ _ _ (.inl (some (xI v7))) _ 0 0) (by decide) rfl (Nat.le_of_ble_eq_true rfl) (d_D_takeFromPipe 14 rfl) ?_
            cases c10 : x0 with
            | none => rw [c10] at h; cases h
            | some i9 =>
              rw [c10] at h
              dsimp only at h
              cases c11 : f_P_getByte i9 v7 st8 with
              | none => rw [c11] at h; cases h
              | some w14 =>
                obtain ⟨v12, st13⟩ := w14
                rw [c11] at h
                dsimp only at h
                refine x_callV (mc := 0) (ms := 0) (pc := 29) (bL := [xI (v7)]) (K := []) C cs_D_284 (m_P_getByte l c11 : x_M l _ _ _ _ (.inl none) _ 0 0) (by decide) rfl (Nat.le_of_ble_eq_true rfl) (d_D_takeFromPipe 15 rfl) ?_
                refine x_iinc (pc := 32) (v := x4 + 1) (L2 := [(4, xI (x4 + 1)), (0, xR 1 (some (i9))), (1, xR 3 (some (i2))), (3, xI (x3))]) C (d_D_takeFromPipe 16 rfl) 3 rfl rfl (by decide) rfl ?_
                refine x_goto (pc := 35) (tgt := 15) C (d_D_takeFromPipe 17 rfl) (by decide) ?_
                exact x_sub [1, 2, 3, 0] rfl (ih _ _ _ _ _ h)
def f_D_takeFromPipe (x0 : Option Nat) (x1 : Option Nat) (x2 : Int32) (st : XS) : Option (Int32 × XS) :=
  match x1 with
  | none => none
  | some i16 =>
    match st.2.2.1 3 i16 0 with
    | none => none
    | some i18 =>
      match f_Math_min x2 (st.1 5 i18 2) st with
      | none => none
      | some v21 =>
        f_D_takeFromPipe_15 100 (x0) (some (i16)) v21 0 st
set_option maxRecDepth 100000 in
set_option maxHeartbeats 4000000 in
theorem m_D_takeFromPipe (l : Launch) {x0 : Option Nat} {x1 : Option Nat} {x2 : Int32} {st : XS} {r : Int32} {st2 : XS} (h : f_D_takeFromPipe x0 x1 x2 st = some (r, st2)) : x_M l M_D_takeFromPipe rm_D_takeFromPipe [xR 1 (x0), xR 3 (x1), xI (x2)] st (.inl (some (xI r))) st2 0 0 := by
  refine x_enter (Nat.le_of_ble_eq_true rfl) ?_
  intro p e s m below meth c D cA g args B C
  have hret := B.2.2.2.2.2.2.2.2.1
  have hmn := B.2.2.2.2.2.2.2.1
  have hex := B.2.2.2.2.2.2.2.2.2.1
  unfold f_D_takeFromPipe at h
  refine x_iload_n (pc := 0) C (d_D_takeFromPipe 0 rfl) rfl 2 rfl ?_
  refine x_aload_n (pc := 1) C (d_D_takeFromPipe 1 rfl) rfl 1 rfl ?_
  cases c17 : x1 with
  | none => rw [c17] at h; cases h
  | some i16 =>
    rw [c17] at h
    dsimp only at h
    refine x_getR (pc := 2) (t := 5) C fl_D_250 rfl rfl (d_D_takeFromPipe 2 rfl) ?_
    cases c19 : st.2.2.1 3 i16 0 with
    | none => rw [c19] at h; cases h
    | some i18 =>
      rw [c19] at h
      dsimp only at h
      refine x_getI (pc := 5) C fl_D_169 rfl (d_D_takeFromPipe 3 rfl) ?_
      cases c20 : f_Math_min x2 (st.1 5 i18 2) st with
      | none => rw [c20] at h; cases h
      | some v21 =>
        rw [c20] at h
        dsimp only at h
        refine x_callS (mc := 0) (ms := 0) (pc := 8) (aL := [xI (x2), xI (st.1 5 i18 2)]) (K := []) C cs_D_275 (m_Math_min l c20 : x_M l _ _ _ _ (.inl (some (xI v21))) _ 0 0) (by decide) rfl (Nat.le_of_ble_eq_true rfl) (d_D_takeFromPipe 4 rfl) ?_
        refine x_istore_n (pc := 11) (L2 := [(3, xI (v21)), (0, xR 1 (x0)), (1, xR 3 (some (i16))), (2, xI (x2))]) C (d_D_takeFromPipe 5 rfl) rfl (by decide) rfl ?_
        refine x_iconst (pc := 12) (v := 0) C (by decide) (d_D_takeFromPipe 6 rfl) ?_
        refine x_istore (pc := 13) (L2 := [(4, xI (0)), (3, xI (v21)), (0, xR 1 (x0)), (1, xR 3 (some (i16))), (2, xI (x2))]) C (d_D_takeFromPipe 7 rfl) (by decide) rfl ?_
        exact x_sub [2, 3, 1, 0] rfl (v_D_takeFromPipe_15 C hret hmn hex 100 _ _ _ _ _ h)
def f_D_takeFromFile_22  : Nat → Option Nat → Option Nat → Option Nat → Int32 → Int32 → XS → Option (Int32 × XS)
  | 0, _, _, _, _, _, _ => none
  | n + 1, x0, x1, x2, x4, x5, st =>
    if x4 ≤ x5 then
      match x1 with
      | none => none
      | some i2 =>
        some (x4, xsI st 2 i2 2 ((st.1 2 i2 2) + x4))
    else
      match x1 with
      | none => none
      | some i4 =>
        match x2 with
        | none => none
        | some i6 =>
          match f_F_byteAt i6 ((st.1 2 i4 2) + x5) st with
          | none => none
          | some v9 =>
            match x0 with
            | none => none
            | some i10 =>
              match f_P_getByte i10 v9 st with
              | none => none
              | some (_, st14) =>
                f_D_takeFromFile_22 n (some (i10)) (some (i4)) (some (i6)) x4 (x5 + 1) st14
set_option maxRecDepth 100000 in
set_option maxHeartbeats 4000000 in
theorem v_D_takeFromFile_22 {p : Program} {l : Launch} {e : Env} {s : State} {m : MethodId} {args : Array Value} {below : List Frame} {meth : Method} {c : Code} {D : va_G} {cA : Nat → ClassId} {g0 : Nat → Nat → Nat} {n0 : Nat → Nat} {r : Int32} {st2 : XS} (C : x_C p e rm_D_takeFromFile s m args meth c D cA (x_A g0 n0 s.heap.size) M_D_takeFromFile.2.1 M_D_takeFromFile.1 M_D_takeFromFile.2.2.1) (hret : meth.sig.returnType = M_D_takeFromFile.2.2.2.1) (hmn : meth.name = M_D_takeFromFile.2.2.2.2.2) (hex : c.exceptionTable.toList.map (fun h => (h.startPc, h.endPc, h.handlerPc, h.catchType)) = M_D_takeFromFile.2.2.2.2.1)  : ∀ (n : Nat) (x0 : Option Nat) (x1 : Option Nat) (x2 : Option Nat) (x4 : Int32) (x5 : Int32) (st : XS), f_D_takeFromFile_22 n x0 x1 x2 x4 x5 st = some (r, st2) → x_V p l e rm_D_takeFromFile s m args below meth c D cA (x_A g0 n0 s.heap.size) M_D_takeFromFile.2.2.1 g0 n0 (x_MQ D cA g0 n0 below s 0 0 (.inl (some (xI r))) st2) 22 [(0, xR 1 (x0)), (1, xR 2 (x1)), (2, xR 4 (x2)), (4, xI (x4)), (5, xI (x5))] [] st 0 0 := by
  intro n
  induction n with
  | zero => intro x0 x1 x2 x4 x5 st h; cases h
  | succ n ih =>
    intro x0 x1 x2 x4 x5 st h
    rw [f_D_takeFromFile_22.eq_def] at h
    dsimp only at h
    refine x_iload (pc := 22) C (d_D_takeFromFile 12 rfl) 4 rfl ?_
    refine x_iload (pc := 24) C (d_D_takeFromFile 13 rfl) 3 rfl ?_
    refine x_icmp_ge (pc := 26) (tgt := 50) C (d_D_takeFromFile 14 rfl) (by decide) (fun c1 => ?_) (fun c1 => ?_)
    · rw [if_pos c1] at h
      refine x_aload_n (pc := 50) C (d_D_takeFromFile 25 rfl) rfl 1 rfl ?_
      refine x_dup (pc := 51) C rfl (d_D_takeFromFile 26 rfl) ?_
      cases c3 : x1 with
      | none => rw [c3] at h; cases h
      | some i2 =>
        rw [c3] at h
        dsimp only at h
        refine x_getI (pc := 52) C fl_D_162 rfl (d_D_takeFromFile 27 rfl) ?_
        refine x_iload (pc := 55) C (d_D_takeFromFile 28 rfl) 3 rfl ?_
        refine x_iadd (pc := 57) C (d_D_takeFromFile 29 rfl) ?_
        refine x_putI (pc := 58) C fl_D_162 (pf_D_162 _) rfl ty_2_2 (d_D_takeFromFile 30 rfl) ?_
        refine x_iload (pc := 61) C (d_D_takeFromFile 31 rfl) 3 rfl ?_
        cases h
        exact x_iret (pc := 63) C hret rfl (Nat.zero_le _) (Nat.zero_le _) (d_D_takeFromFile 32 rfl)
    · rw [if_neg c1] at h
      refine x_aload_n (pc := 29) C (d_D_takeFromFile 15 rfl) rfl 0 rfl ?_
      refine x_aload_n (pc := 30) C (d_D_takeFromFile 16 rfl) rfl 2 rfl ?_
      refine x_aload_n (pc := 31) C (d_D_takeFromFile 17 rfl) rfl 1 rfl ?_
      cases c5 : x1 with
      | none => rw [c5] at h; cases h
      | some i4 =>
        rw [c5] at h
        dsimp only at h
        refine x_getI (pc := 32) C fl_D_162 rfl (d_D_takeFromFile 18 rfl) ?_
        refine x_iload (pc := 35) C (d_D_takeFromFile 19 rfl) 4 rfl ?_
        refine x_iadd (pc := 37) C (d_D_takeFromFile 20 rfl) ?_
        cases c7 : x2 with
        | none => rw [c7] at h; cases h
        | some i6 =>
          rw [c7] at h
          dsimp only at h
          cases c8 : f_F_byteAt i6 ((st.1 2 i4 2) + x5) st with
          | none => rw [c8] at h; cases h
          | some v9 =>
            rw [c8] at h
            dsimp only at h
            refine x_callV (mc := 0) (ms := 0) (pc := 38) (bL := [xI ((st.1 2 i4 2) + x5)]) (K := [xR 1 (x0)]) C cs_D_290 (m_F_byteAt l c8 : x_M l _ _ _ _ (.inl (some (xI v9))) _ 0 0) (by decide) rfl (Nat.le_of_ble_eq_true rfl) (d_D_takeFromFile 21 rfl) ?_
            cases c11 : x0 with
            | none => rw [c11] at h; cases h
            | some i10 =>
              rw [c11] at h
              dsimp only at h
              cases c12 : f_P_getByte i10 v9 st with
              | none => rw [c12] at h; cases h
              | some w15 =>
                obtain ⟨v13, st14⟩ := w15
                rw [c12] at h
                dsimp only at h
                refine x_callV (mc := 0) (ms := 0) (pc := 41) (bL := [xI (v9)]) (K := []) C cs_D_284 (m_P_getByte l c12 : x_M l _ _ _ _ (.inl none) _ 0 0) (by decide) rfl (Nat.le_of_ble_eq_true rfl) (d_D_takeFromFile 22 rfl) ?_
                refine x_iinc (pc := 44) (v := x5 + 1) (L2 := [(5, xI (x5 + 1)), (0, xR 1 (some (i10))), (1, xR 2 (some (i4))), (2, xR 4 (some (i6))), (4, xI (x4))]) C (d_D_takeFromFile 23 rfl) 4 rfl rfl (by decide) rfl ?_
                refine x_goto (pc := 47) (tgt := 22) C (d_D_takeFromFile 24 rfl) (by decide) ?_
                exact x_sub [1, 2, 3, 4, 0] rfl (ih _ _ _ _ _ _ h)
def f_D_takeFromFile (x0 : Option Nat) (x1 : Option Nat) (x2 : Option Nat) (x3 : Int32) (st : XS) : Option (Int32 × XS) :=
  match x2 with
  | none => none
  | some i17 =>
    match x1 with
    | none => none
    | some i19 =>
      match f_Math_min x3 ((st.1 4 i17 1) - (st.1 2 i19 2)) st with
      | none => none
      | some v22 =>
        match f_Math_max 0 v22 st with
        | none => none
        | some v24 =>
          f_D_takeFromFile_22 100 (x0) (some (i19)) (some (i17)) v24 0 st
set_option maxRecDepth 100000 in
set_option maxHeartbeats 4000000 in
theorem m_D_takeFromFile (l : Launch) {x0 : Option Nat} {x1 : Option Nat} {x2 : Option Nat} {x3 : Int32} {st : XS} {r : Int32} {st2 : XS} (h : f_D_takeFromFile x0 x1 x2 x3 st = some (r, st2)) : x_M l M_D_takeFromFile rm_D_takeFromFile [xR 1 (x0), xR 2 (x1), xR 4 (x2), xI (x3)] st (.inl (some (xI r))) st2 0 0 := by
  refine x_enter (Nat.le_of_ble_eq_true rfl) ?_
  intro p e s m below meth c D cA g args B C
  have hret := B.2.2.2.2.2.2.2.2.1
  have hmn := B.2.2.2.2.2.2.2.1
  have hex := B.2.2.2.2.2.2.2.2.2.1
  unfold f_D_takeFromFile at h
  refine x_iconst (pc := 0) (v := 0) C (by decide) (d_D_takeFromFile 0 rfl) ?_
  refine x_iload_n (pc := 1) C (d_D_takeFromFile 1 rfl) rfl 3 rfl ?_
  refine x_aload_n (pc := 2) C (d_D_takeFromFile 2 rfl) rfl 2 rfl ?_
  cases c18 : x2 with
  | none => rw [c18] at h; cases h
  | some i17 =>
    rw [c18] at h
    dsimp only at h
    refine x_getI (pc := 3) C fl_D_115 rfl (d_D_takeFromFile 3 rfl) ?_
    refine x_aload_n (pc := 6) C (d_D_takeFromFile 4 rfl) rfl 1 rfl ?_
    cases c20 : x1 with
    | none => rw [c20] at h; cases h
    | some i19 =>
      rw [c20] at h
      dsimp only at h
      refine x_getI (pc := 7) C fl_D_162 rfl (d_D_takeFromFile 5 rfl) ?_
      refine x_isub (pc := 10) C (d_D_takeFromFile 6 rfl) ?_
      cases c21 : f_Math_min x3 ((st.1 4 i17 1) - (st.1 2 i19 2)) st with
      | none => rw [c21] at h; cases h
      | some v22 =>
        rw [c21] at h
        dsimp only at h
        refine x_callS (mc := 0) (ms := 0) (pc := 11) (aL := [xI (x3), xI ((st.1 4 i17 1) - (st.1 2 i19 2))]) (K := [xI (0)]) C cs_D_275 (m_Math_min l c21 : x_M l _ _ _ _ (.inl (some (xI v22))) _ 0 0) (by decide) rfl (Nat.le_of_ble_eq_true rfl) (d_D_takeFromFile 7 rfl) ?_
        cases c23 : f_Math_max 0 v22 st with
        | none => rw [c23] at h; cases h
        | some v24 =>
          rw [c23] at h
          dsimp only at h
          refine x_callS (mc := 0) (ms := 0) (pc := 14) (aL := [xI (0), xI (v22)]) (K := []) C cs_D_287 (m_Math_max l c23 : x_M l _ _ _ _ (.inl (some (xI v24))) _ 0 0) (by decide) rfl (Nat.le_of_ble_eq_true rfl) (d_D_takeFromFile 8 rfl) ?_
          refine x_istore (pc := 17) (L2 := [(4, xI (v24)), (0, xR 1 (x0)), (1, xR 2 (some (i19))), (2, xR 4 (some (i17))), (3, xI (x3))]) C (d_D_takeFromFile 9 rfl) (by decide) rfl ?_
          refine x_iconst (pc := 19) (v := 0) C (by decide) (d_D_takeFromFile 10 rfl) ?_
          refine x_istore (pc := 20) (L2 := [(5, xI (0)), (4, xI (v24)), (0, xR 1 (x0)), (1, xR 2 (some (i19))), (2, xR 4 (some (i17))), (3, xI (x3))]) C (d_D_takeFromFile 11 rfl) (by decide) rfl ?_
          exact x_sub [2, 3, 4, 1, 0] rfl (v_D_takeFromFile_22 C hret hmn hex 100 _ _ _ _ _ _ h)
def f_D_takeFromConsole_15  : Nat → Nat → Option Nat → Int32 → Int32 → XS → Option (Int32 × XS)
  | 0, _, _, _, _, _ => none
  | n + 1, x0, x1, x3, x4, st =>
    if x3 ≤ x4 then
      some (x3, st)
    else
      match st.2.2.1 0 x0 4 with
      | none => none
      | some i2 =>
        match f_B_takeFirst i2 st with
        | none => none
        | some (v5, st6) =>
          if v5 = 4 then
            some (x4, st6)
          else
            match x1 with
            | none => none
            | some i8 =>
              match f_P_getByte i8 v5 st6 with
              | none => none
              | some (_, st12) =>
                f_D_takeFromConsole_15 n x0 (some (i8)) x3 (x4 + 1) st12
set_option maxRecDepth 100000 in
set_option maxHeartbeats 4000000 in
theorem v_D_takeFromConsole_15 {p : Program} {l : Launch} {e : Env} {s : State} {m : MethodId} {args : Array Value} {below : List Frame} {meth : Method} {c : Code} {D : va_G} {cA : Nat → ClassId} {g0 : Nat → Nat → Nat} {n0 : Nat → Nat} {r : Int32} {st2 : XS} (C : x_C p e rm_D_takeFromConsole s m args meth c D cA (x_A g0 n0 s.heap.size) M_D_takeFromConsole.2.1 M_D_takeFromConsole.1 M_D_takeFromConsole.2.2.1) (hret : meth.sig.returnType = M_D_takeFromConsole.2.2.2.1) (hmn : meth.name = M_D_takeFromConsole.2.2.2.2.2) (hex : c.exceptionTable.toList.map (fun h => (h.startPc, h.endPc, h.handlerPc, h.catchType)) = M_D_takeFromConsole.2.2.2.2.1)  : ∀ (n : Nat) (x0 : Nat) (x1 : Option Nat) (x3 : Int32) (x4 : Int32) (st : XS), f_D_takeFromConsole_15 n x0 x1 x3 x4 st = some (r, st2) → x_V p l e rm_D_takeFromConsole s m args below meth c D cA (x_A g0 n0 s.heap.size) M_D_takeFromConsole.2.2.1 g0 n0 (x_MQ D cA g0 n0 below s 0 0 (.inl (some (xI r))) st2) 15 [(0, xR 0 (some (x0))), (1, xR 1 (x1)), (3, xI (x3)), (4, xI (x4))] [] st 0 0 := by
  intro n
  induction n with
  | zero => intro x0 x1 x3 x4 st h; cases h
  | succ n ih =>
    intro x0 x1 x3 x4 st h
    rw [f_D_takeFromConsole_15.eq_def] at h
    dsimp only at h
    refine x_iload (pc := 15) C (d_D_takeFromConsole 8 rfl) 3 rfl ?_
    refine x_iload_n (pc := 17) C (d_D_takeFromConsole 9 rfl) rfl 2 rfl ?_
    refine x_icmp_ge (pc := 18) (tgt := 51) C (d_D_takeFromConsole 10 rfl) (by decide) (fun c1 => ?_) (fun c1 => ?_)
    · rw [if_pos c1] at h
      refine x_iload_n (pc := 51) C (d_D_takeFromConsole 25 rfl) rfl 2 rfl ?_
      cases h
      exact x_iret (pc := 52) C hret rfl (Nat.zero_le _) (Nat.zero_le _) (d_D_takeFromConsole 26 rfl)
    · rw [if_neg c1] at h
      refine x_aload_n (pc := 21) C (d_D_takeFromConsole 11 rfl) rfl 0 rfl ?_
      refine x_getR (pc := 22) (t := 5) C fl_D_36 rfl rfl (d_D_takeFromConsole 12 rfl) ?_
      cases c3 : st.2.2.1 0 x0 4 with
      | none => rw [c3] at h; cases h
      | some i2 =>
        rw [c3] at h
        dsimp only at h
        cases c4 : f_B_takeFirst i2 st with
        | none => rw [c4] at h; cases h
        | some w14 =>
          obtain ⟨v5, st6⟩ := w14
          rw [c4] at h
          dsimp only at h
          refine x_callV (mc := 0) (ms := 0) (pc := 25) (bL := []) (K := []) C cs_D_281 (m_B_takeFirst l c4 : x_M l _ _ _ _ (.inl (some (xI v5))) _ 0 0) (by decide) rfl (Nat.le_of_ble_eq_true rfl) (d_D_takeFromConsole 13 rfl) ?_
          refine x_istore (pc := 28) (L2 := [(5, xI (v5)), (0, xR 0 (some (x0))), (1, xR 1 (x1)), (3, xI (x3)), (4, xI (x4))]) C (d_D_takeFromConsole 14 rfl) (by decide) rfl ?_
          refine x_iload (pc := 30) C (d_D_takeFromConsole 15 rfl) 0 rfl ?_
          refine x_iconst (pc := 32) (v := 4) C (by decide) (d_D_takeFromConsole 16 rfl) ?_
          refine x_icmp_ne (pc := 33) (tgt := 39) C (d_D_takeFromConsole 17 rfl) (by decide) (fun c7 => ?_) (fun c7 => ?_)
          · rw [if_neg c7] at h
            refine x_aload_n (pc := 39) C (d_D_takeFromConsole 20 rfl) rfl 2 rfl ?_
            refine x_iload (pc := 40) C (d_D_takeFromConsole 21 rfl) 0 rfl ?_
            cases c9 : x1 with
            | none => rw [c9] at h; cases h
            | some i8 =>
              rw [c9] at h
              dsimp only at h
              cases c10 : f_P_getByte i8 v5 st6 with
              | none => rw [c10] at h; cases h
              | some w13 =>
                obtain ⟨v11, st12⟩ := w13
                rw [c10] at h
                dsimp only at h
                refine x_callV (mc := 0) (ms := 0) (pc := 42) (bL := [xI (v5)]) (K := []) C cs_D_284 (m_P_getByte l c10 : x_M l _ _ _ _ (.inl none) _ 0 0) (by decide) rfl (Nat.le_of_ble_eq_true rfl) (d_D_takeFromConsole 22 rfl) ?_
                refine x_iinc (pc := 45) (v := x4 + 1) (L2 := [(4, xI (x4 + 1)), (5, xI (v5)), (0, xR 0 (some (x0))), (1, xR 1 (some (i8))), (3, xI (x3))]) C (d_D_takeFromConsole 23 rfl) 4 rfl rfl (by decide) rfl ?_
                refine x_goto (pc := 48) (tgt := 15) C (d_D_takeFromConsole 24 rfl) (by decide) ?_
                exact x_sub [2, 3, 4, 0] rfl (ih _ _ _ _ _ h)
          · rw [if_pos c7] at h
            refine x_iload (pc := 36) C (d_D_takeFromConsole 18 rfl) 4 rfl ?_
            cases h
            exact x_iret (pc := 38) C hret rfl (Nat.zero_le _) (Nat.zero_le _) (d_D_takeFromConsole 19 rfl)
def f_D_takeFromConsole (x0 : Nat) (x1 : Option Nat) (x2 : Int32) (st : XS) : Option (Int32 × XS) :=
  match st.2.2.1 0 x0 4 with
  | none => none
  | some i15 =>
    match f_Math_min x2 (st.1 5 i15 2) st with
    | none => none
    | some v18 =>
      f_D_takeFromConsole_15 100 x0 (x1) v18 0 st
set_option maxRecDepth 100000 in
set_option maxHeartbeats 4000000 in
theorem m_D_takeFromConsole (l : Launch) {x0 : Nat} {x1 : Option Nat} {x2 : Int32} {st : XS} {r : Int32} {st2 : XS} (h : f_D_takeFromConsole x0 x1 x2 st = some (r, st2)) : x_M l M_D_takeFromConsole rm_D_takeFromConsole [xR 0 (some (x0)), xR 1 (x1), xI (x2)] st (.inl (some (xI r))) st2 0 0 := by
  refine x_enter (Nat.le_of_ble_eq_true rfl) ?_
  intro p e s m below meth c D cA g args B C
  have hret := B.2.2.2.2.2.2.2.2.1
  have hmn := B.2.2.2.2.2.2.2.1
  have hex := B.2.2.2.2.2.2.2.2.2.1
  unfold f_D_takeFromConsole at h
  refine x_iload_n (pc := 0) C (d_D_takeFromConsole 0 rfl) rfl 2 rfl ?_
  refine x_aload_n (pc := 1) C (d_D_takeFromConsole 1 rfl) rfl 0 rfl ?_
  refine x_getR (pc := 2) (t := 5) C fl_D_36 rfl rfl (d_D_takeFromConsole 2 rfl) ?_
  cases c16 : st.2.2.1 0 x0 4 with
  | none => rw [c16] at h; cases h
  | some i15 =>
    rw [c16] at h
    dsimp only at h
    refine x_getI (pc := 5) C fl_D_169 rfl (d_D_takeFromConsole 3 rfl) ?_
    cases c17 : f_Math_min x2 (st.1 5 i15 2) st with
    | none => rw [c17] at h; cases h
    | some v18 =>
      rw [c17] at h
      dsimp only at h
      refine x_callS (mc := 0) (ms := 0) (pc := 8) (aL := [xI (x2), xI (st.1 5 i15 2)]) (K := []) C cs_D_275 (m_Math_min l c17 : x_M l _ _ _ _ (.inl (some (xI v18))) _ 0 0) (by decide) rfl (Nat.le_of_ble_eq_true rfl) (d_D_takeFromConsole 4 rfl) ?_
      refine x_istore_n (pc := 11) (L2 := [(3, xI (v18)), (0, xR 0 (some (x0))), (1, xR 1 (x1)), (2, xI (x2))]) C (d_D_takeFromConsole 5 rfl) rfl (by decide) rfl ?_
      refine x_iconst (pc := 12) (v := 0) C (by decide) (d_D_takeFromConsole 6 rfl) ?_
      refine x_istore (pc := 13) (L2 := [(4, xI (0)), (3, xI (v18)), (0, xR 0 (some (x0))), (1, xR 1 (x1)), (2, xI (x2))]) C (d_D_takeFromConsole 7 rfl) (by decide) rfl ?_
      exact x_sub [2, 3, 1, 0] rfl (v_D_takeFromConsole_15 C hret hmn hex 100 _ _ _ _ _ h)
def f_D_take (x0 : Nat) (x1 : Option Nat) (x2 : Option Nat) (x3 : Int32) (st : XS) : Option (Int32 × XS) :=
  match x2 with
  | none => none
  | some i1 =>
    match st.2.2.1 2 i1 0 with
    | none =>
      match st.2.2.1 2 i1 1 with
      | none =>
        match f_D_takeFromConsole x0 (x1) x3 st with
        | none => none
        | some (v8, st9) =>
          some (v8, st9)
      | some i6 =>
        match f_D_takeFromFile (x1) (some (i1)) (some (i6)) x3 st with
        | none => none
        | some (v12, st13) =>
          some (v12, st13)
    | some i4 =>
      match f_D_takeFromPipe (x1) (some (i4)) x3 st with
      | none => none
      | some (v16, st17) =>
        some (v16, st17)
set_option maxRecDepth 100000 in
set_option maxHeartbeats 4000000 in
theorem m_D_take (l : Launch) {x0 : Nat} {x1 : Option Nat} {x2 : Option Nat} {x3 : Int32} {st : XS} {r : Int32} {st2 : XS} (h : f_D_take x0 x1 x2 x3 st = some (r, st2)) : x_M l M_D_take rm_D_take [xR 0 (some (x0)), xR 1 (x1), xR 2 (x2), xI (x3)] st (.inl (some (xI r))) st2 0 0 := by
  refine x_enter (Nat.le_of_ble_eq_true rfl) ?_
  intro p e s m below meth c D cA g args B C
  have hret := B.2.2.2.2.2.2.2.2.1
  have hmn := B.2.2.2.2.2.2.2.1
  have hex := B.2.2.2.2.2.2.2.2.2.1
  unfold f_D_take at h
  refine x_aload_n (pc := 0) C (d_D_take 0 rfl) rfl 2 rfl ?_
  cases c2 : x2 with
  | none => rw [c2] at h; cases h
  | some i1 =>
    rw [c2] at h
    dsimp only at h
    refine x_getR (pc := 1) (t := 3) C fl_D_246 rfl rfl (d_D_take 1 rfl) ?_
    refine x_ifnull (pc := 4) (tgt := 17) C (d_D_take 2 rfl) (by decide) (fun c3 => ?_) (fun i4 c3 => ?_)
    · rw [c3] at h; try rw [c3]
      dsimp only at h
      refine x_aload_n (pc := 17) C (d_D_take 9 rfl) rfl 2 rfl ?_
      refine x_getR (pc := 18) (t := 4) C fl_D_158 rfl rfl (d_D_take 10 rfl) ?_
      refine x_ifnull (pc := 21) (tgt := 35) C (d_D_take 11 rfl) (by decide) (fun c5 => ?_) (fun i6 c5 => ?_)
      · rw [c5] at h; try rw [c5]
        dsimp only at h
        refine x_aload_n (pc := 35) C (d_D_take 19 rfl) rfl 0 rfl ?_
        refine x_aload_n (pc := 36) C (d_D_take 20 rfl) rfl 1 rfl ?_
        refine x_iload_n (pc := 37) C (d_D_take 21 rfl) rfl 3 rfl ?_
        cases c7 : f_D_takeFromConsole x0 (x1) x3 st with
        | none => rw [c7] at h; cases h
        | some w10 =>
          obtain ⟨v8, st9⟩ := w10
          rw [c7] at h
          dsimp only at h
          refine x_callV (mc := 0) (ms := 0) (pc := 38) (bL := [xR 1 (x1), xI (x3)]) (K := []) C cs_D_271 (m_D_takeFromConsole l c7 : x_M l _ _ _ _ (.inl (some (xI v8))) _ 0 0) (by decide) rfl (Nat.le_of_ble_eq_true rfl) (d_D_take 22 rfl) ?_
          cases h
          exact x_iret (pc := 41) C hret rfl (Nat.zero_le _) (Nat.zero_le _) (d_D_take 23 rfl)
      · rw [c5] at h; try rw [c5]
        dsimp only at h
        refine x_aload_n (pc := 24) C (d_D_take 12 rfl) rfl 1 rfl ?_
        refine x_aload_n (pc := 25) C (d_D_take 13 rfl) rfl 2 rfl ?_
        refine x_aload_n (pc := 26) C (d_D_take 14 rfl) rfl 2 rfl ?_
        refine x_getR (pc := 27) (t := 4) C fl_D_158 rfl rfl (d_D_take 15 rfl) ?_
        rw [c5]
        refine x_iload_n (pc := 30) C (d_D_take 16 rfl) rfl 3 rfl ?_
        cases c11 : f_D_takeFromFile (x1) (some (i1)) (some (i6)) x3 st with
        | none => rw [c11] at h; cases h
        | some w14 =>
          obtain ⟨v12, st13⟩ := w14
          rw [c11] at h
          dsimp only at h
          refine x_callS (mc := 0) (ms := 0) (pc := 31) (aL := [xR 1 (x1), xR 2 (some (i1)), xR 4 (some (i6)), xI (x3)]) (K := []) C cs_D_267 (m_D_takeFromFile l c11 : x_M l _ _ _ _ (.inl (some (xI v12))) _ 0 0) (by decide) rfl (Nat.le_of_ble_eq_true rfl) (d_D_take 17 rfl) ?_
          cases h
          exact x_iret (pc := 34) C hret rfl (Nat.zero_le _) (Nat.zero_le _) (d_D_take 18 rfl)
    · rw [c3] at h; try rw [c3]
      dsimp only at h
      refine x_aload_n (pc := 7) C (d_D_take 3 rfl) rfl 1 rfl ?_
      refine x_aload_n (pc := 8) C (d_D_take 4 rfl) rfl 2 rfl ?_
      refine x_getR (pc := 9) (t := 3) C fl_D_246 rfl rfl (d_D_take 5 rfl) ?_
      rw [c3]
      refine x_iload_n (pc := 12) C (d_D_take 6 rfl) rfl 3 rfl ?_
      cases c15 : f_D_takeFromPipe (x1) (some (i4)) x3 st with
      | none => rw [c15] at h; cases h
      | some w18 =>
        obtain ⟨v16, st17⟩ := w18
        rw [c15] at h
        dsimp only at h
        refine x_callS (mc := 0) (ms := 0) (pc := 13) (aL := [xR 1 (x1), xR 3 (some (i4)), xI (x3)]) (K := []) C cs_D_263 (m_D_takeFromPipe l c15 : x_M l _ _ _ _ (.inl (some (xI v16))) _ 0 0) (by decide) rfl (Nat.le_of_ble_eq_true rfl) (d_D_take 7 rfl) ?_
        cases h
        exact x_iret (pc := 16) C hret rfl (Nat.zero_le _) (Nat.zero_le _) (d_D_take 8 rfl)
def f_D_read_50  (x0 : Nat) (x3 : Int32) (x4 : Option Nat) (x5 : Option Nat) (x6 : Int32) (st : XS) : Option ((Int32 ⊕ String) × XS) :=
  if x6 = 0 then
    match x4 with
    | none => none
    | some i2 =>
      match f_D_take x0 (some (i2)) (x5) x3 (xsJ st 1 i2 4 0) with
      | none => none
      | some (v5, st6) =>
        match f_D_wakeAll x0 st6 with
        | none => none
        | some (v8, st9) =>
          some (.inl (v5), st9)
  else
    some (.inl (x6), st)
set_option maxRecDepth 100000 in
set_option maxHeartbeats 4000000 in
theorem v_D_read_50 {p : Program} {l : Launch} {e : Env} {s : State} {m : MethodId} {args : Array Value} {below : List Frame} {meth : Method} {c : Code} {D : va_G} {cA : Nat → ClassId} {g0 : Nat → Nat → Nat} {n0 : Nat → Nat} {r : Int32 ⊕ String} {st2 : XS} (C : x_C p e rm_D_read s m args meth c D cA (x_A g0 n0 s.heap.size) M_D_read.2.1 M_D_read.1 M_D_read.2.2.1) (hret : meth.sig.returnType = M_D_read.2.2.2.1) (hmn : meth.name = M_D_read.2.2.2.2.2) (hex : c.exceptionTable.toList.map (fun h => (h.startPc, h.endPc, h.handlerPc, h.catchType)) = M_D_read.2.2.2.2.1) (hfl : l.flags = flags0)  (x0 : Nat) (x3 : Int32) (x4 : Option Nat) (x5 : Option Nat) (x6 : Int32) (st : XS) (h : f_D_read_50 x0 x3 x4 x5 x6 st = some (r, st2)) : x_V p l e rm_D_read s m args below meth c D cA (x_A g0 n0 s.heap.size) M_D_read.2.2.1 g0 n0 (x_MQ D cA g0 n0 below s (xmc r) (xms r) (xth (fun v => some (xI v)) r) st2) 50 [(0, xR 0 (some (x0))), (3, xI (x3)), (4, xR 1 (x4)), (5, xR 2 (x5)), (6, xI (x6))] [] st 0 0 := by
  unfold f_D_read_50 at h
  refine x_iload (pc := 50) C (d_D_read 27 rfl) 4 rfl ?_
  refine x_if_eq (pc := 52) (tgt := 58) C (d_D_read 28 rfl) (by decide) (fun c1 => ?_) (fun c1 => ?_)
  · rw [if_pos c1] at h
    refine x_aload (pc := 58) C (d_D_read 31 rfl) 2 rfl ?_
    refine x_lconst (pc := 60) (v := 0) C (by decide) (d_D_read 32 rfl) ?_
    cases c3 : x4 with
    | none => rw [c3] at h; cases h
    | some i2 =>
      rw [c3] at h
      dsimp only at h
      refine x_putJ (pc := 61) C fl_D_133 (pf_D_133 _) rfl ty_1_4 (d_D_read 33 rfl) ?_
      refine x_aload_n (pc := 64) C (d_D_read 34 rfl) rfl 0 rfl ?_
      refine x_aload (pc := 65) C (d_D_read 35 rfl) 2 rfl ?_
      refine x_aload (pc := 67) C (d_D_read 36 rfl) 3 rfl ?_
      refine x_iload_n (pc := 69) C (d_D_read 37 rfl) rfl 1 rfl ?_
      cases c4 : f_D_take x0 (some (i2)) (x5) x3 (xsJ st 1 i2 4 0) with
      | none => rw [c4] at h; cases h
      | some w11 =>
        obtain ⟨v5, st6⟩ := w11
        rw [c4] at h
        dsimp only at h
        refine x_callV (mc := 0) (ms := 0) (pc := 70) (bL := [xR 1 (some (i2)), xR 2 (x5), xI (x3)]) (K := []) C cs_D_137 (m_D_take l c4 : x_M l _ _ _ _ (.inl (some (xI v5))) _ 0 0) (by decide) rfl (Nat.le_of_ble_eq_true rfl) (d_D_read 38 rfl) ?_
        refine x_istore (pc := 73) (L2 := [(7, xI (v5)), (0, xR 0 (some (x0))), (3, xI (x3)), (4, xR 1 (some (i2))), (5, xR 2 (x5)), (6, xI (x6))]) C (d_D_read 39 rfl) (by decide) rfl ?_
        refine x_aload_n (pc := 75) C (d_D_read 40 rfl) rfl 1 rfl ?_
        cases c7 : f_D_wakeAll x0 st6 with
        | none => rw [c7] at h; cases h
        | some w10 =>
          obtain ⟨v8, st9⟩ := w10
          rw [c7] at h
          dsimp only at h
          refine x_callV (mc := 0) (ms := 0) (pc := 76) (bL := []) (K := []) C cs_D_90 (m_D_wakeAll l c7 : x_M l _ _ _ _ (.inl (some (xI v8))) _ 0 0) (by decide) rfl (Nat.le_of_ble_eq_true rfl) (d_D_read 41 rfl) ?_
          refine x_popv (pc := 79) C rfl (d_D_read 42 rfl) ?_
          refine x_iload (pc := 80) C (d_D_read 43 rfl) 0 rfl ?_
          cases h
          exact x_iret (pc := 82) C hret rfl (Nat.zero_le _) (Nat.zero_le _) (d_D_read 44 rfl)
  · rw [if_neg c1] at h
    refine x_iload (pc := 55) C (d_D_read 29 rfl) 4 rfl ?_
    cases h
    exact x_iret (pc := 57) C hret rfl (Nat.zero_le _) (Nat.zero_le _) (d_D_read 30 rfl)
def f_D_read (x0 : Nat) (x1 : Int32) (x2 : Int32) (x3 : Int32) (st : XS) : Option ((Int32 ⊕ String) × XS) :=
  match f_D_readyProc x0 x1 st with
  | none => none
  | some (.inr e_34) => some (.inr e_34, st)
  | some (.inl v13) =>
    match f_D_checkAmount x3 st with
    | none => none
    | some (.inr e_32) => some (.inr e_32, st)
    | some (.inl _) =>
      match v13 with
      | none => none
      | some i16 =>
        match f_P_openingAt i16 x2 st with
        | none => none
        | some v19 =>
          match v19 with
          | none =>
            some (.inl ((-1)), st)
          | some i21 =>
            match f_D_hindranceToRead x0 (some (i21)) x3 st with
            | none => none
            | some v23 =>
              if v23 = ((-6)) then
                match f_P_beWaiting i16 2 x2 x3 st with
                | none => none
                | some (_, st27) =>
                  f_D_read_50 x0 x3 (some (i16)) (some (i21)) v23 st27
              else
                f_D_read_50 x0 x3 (some (i16)) (some (i21)) v23 st
set_option maxRecDepth 100000 in
set_option maxHeartbeats 4000000 in
theorem m_D_read (l : Launch) (hfl : l.flags = flags0) {x0 : Nat} {x1 : Int32} {x2 : Int32} {x3 : Int32} {st : XS} {r : Int32 ⊕ String} {st2 : XS} (h : f_D_read x0 x1 x2 x3 st = some (r, st2)) : x_M l M_D_read rm_D_read [xR 0 (some (x0)), xI (x1), xI (x2), xI (x3)] st (xth (fun v => some (xI v)) r) st2 (xmc r) (xms r) := by
  refine x_enter (Nat.le_of_ble_eq_true rfl) ?_
  intro p e s m below meth c D cA g args B C
  have hret := B.2.2.2.2.2.2.2.2.1
  have hmn := B.2.2.2.2.2.2.2.1
  have hex := B.2.2.2.2.2.2.2.2.2.1
  unfold f_D_read at h
  refine x_aload_n (pc := 0) C (d_D_read 0 rfl) rfl 0 rfl ?_
  refine x_iload_n (pc := 1) C (d_D_read 1 rfl) rfl 1 rfl ?_
  cases c12 : f_D_readyProc x0 x1 st with
  | none => rw [c12] at h; cases h
  | some w33 =>
    cases w33 with
    | inr e_34 =>
      rw [c12] at h
      dsimp only at h
      cases h
      exact x_callVt (mc := 1) (ms := 6) (pc := 2) (bL := [xI (x1)]) (K := []) C cs_D_69 (m_D_readyProc l hfl c12 : x_M l _ _ _ _ (.inr e_34) _ 1 6) (by decide) rfl (Nat.le_of_ble_eq_true rfl) (d_D_read 2 rfl) (x_out C (by rw [List.map_eq_nil_iff.mp hex]; intro x hx; cases hx) (Nat.le_refl 1) (Nat.le_refl 6))
    | inl v13 =>
      rw [c12] at h
      dsimp only at h
      refine x_callV (mc := 0) (ms := 0) (pc := 2) (bL := [xI (x1)]) (K := []) C cs_D_69 (m_D_readyProc l hfl c12 : x_M l _ _ _ _ (.inl (some (xR 1 v13))) _ 0 0) (by decide) rfl (Nat.le_of_ble_eq_true rfl) (d_D_read 2 rfl) ?_
      refine x_astore (pc := 5) (L2 := [(4, xR 1 (v13)), (0, xR 0 (some (x0))), (1, xI (x1)), (2, xI (x2)), (3, xI (x3))]) C (d_D_read 3 rfl) (by decide) rfl ?_
      refine x_iload_n (pc := 7) C (d_D_read 4 rfl) rfl 4 rfl ?_
      cases c14 : f_D_checkAmount x3 st with
      | none => rw [c14] at h; cases h
      | some w31 =>
        cases w31 with
        | inr e_32 =>
          rw [c14] at h
          dsimp only at h
          cases h
          exact x_callSt (mc := 1) (ms := 6) (pc := 8) (aL := [xI (x3)]) (K := []) C cs_D_122 (m_D_checkAmount l hfl c14 : x_M l _ _ _ _ (.inr e_32) _ 1 6) (by decide) rfl (Nat.le_of_ble_eq_true rfl) (d_D_read 5 rfl) (x_out C (by rw [List.map_eq_nil_iff.mp hex]; intro x hx; cases hx) (Nat.le_refl 1) (Nat.le_refl 6))
        | inl v15 =>
          rw [c14] at h
          dsimp only at h
          refine x_callS (mc := 0) (ms := 0) (pc := 8) (aL := [xI (x3)]) (K := []) C cs_D_122 (m_D_checkAmount l hfl c14 : x_M l _ _ _ _ (.inl none) _ 0 0) (by decide) rfl (Nat.le_of_ble_eq_true rfl) (d_D_read 5 rfl) ?_
          refine x_aload (pc := 11) C (d_D_read 6 rfl) 0 rfl ?_
          refine x_iload_n (pc := 13) C (d_D_read 7 rfl) rfl 3 rfl ?_
          cases c17 : v13 with
          | none => rw [c17] at h; cases h
          | some i16 =>
            rw [c17] at h
            dsimp only at h
            cases c18 : f_P_openingAt i16 x2 st with
            | none => rw [c18] at h; cases h
            | some v19 =>
              rw [c18] at h
              dsimp only at h
              refine x_callV (mc := 0) (ms := 0) (pc := 14) (bL := [xI (x2)]) (K := []) C cs_D_73 (m_P_openingAt l c18 : x_M l _ _ _ _ (.inl (some (xR 2 v19))) _ 0 0) (by decide) rfl (Nat.le_of_ble_eq_true rfl) (d_D_read 8 rfl) ?_
              refine x_astore (pc := 17) (L2 := [(5, xR 2 (v19)), (4, xR 1 (some (i16))), (0, xR 0 (some (x0))), (1, xI (x1)), (2, xI (x2)), (3, xI (x3))]) C (d_D_read 9 rfl) (by decide) rfl ?_
              refine x_aload (pc := 19) C (d_D_read 10 rfl) 0 rfl ?_
              refine x_ifnonnull (pc := 21) (tgt := 26) C (d_D_read 11 rfl) (by decide) (fun i21 c20 => ?_) (fun c20 => ?_)
              · rw [c20] at h; try rw [c20]
                dsimp only at h
                refine x_aload_n (pc := 26) C (d_D_read 14 rfl) rfl 2 rfl ?_
                refine x_aload (pc := 27) C (d_D_read 15 rfl) 0 rfl ?_
                refine x_iload_n (pc := 29) C (d_D_read 16 rfl) rfl 5 rfl ?_
                cases c22 : f_D_hindranceToRead x0 (some (i21)) x3 st with
                | none => rw [c22] at h; cases h
                | some v23 =>
                  rw [c22] at h
                  dsimp only at h
                  refine x_callV (mc := 0) (ms := 0) (pc := 30) (bL := [xR 2 (some (i21)), xI (x3)]) (K := []) C cs_D_125 (m_D_hindranceToRead l c22 : x_M l _ _ _ _ (.inl (some (xI v23))) _ 0 0) (by decide) rfl (Nat.le_of_ble_eq_true rfl) (d_D_read 17 rfl) ?_
                  refine x_istore (pc := 33) (L2 := [(6, xI (v23)), (5, xR 2 (some (i21))), (4, xR 1 (some (i16))), (0, xR 0 (some (x0))), (1, xI (x1)), (2, xI (x2)), (3, xI (x3))]) C (d_D_read 18 rfl) (by decide) rfl ?_
                  refine x_iload (pc := 35) C (d_D_read 19 rfl) 0 rfl ?_
                  refine x_bipush (pc := 37) (v := (-6)) C (by decide) (d_D_read 20 rfl) ?_
                  refine x_icmp_ne (pc := 39) (tgt := 50) C (d_D_read 21 rfl) (by decide) (fun c24 => ?_) (fun c24 => ?_)
                  · rw [if_neg c24] at h
                    exact x_sub [3, 6, 2, 1, 0] rfl (v_D_read_50 C hret hmn hex hfl _ _ _ _ _ _ h)
                  · rw [if_pos c24] at h
                    refine x_aload (pc := 42) C (d_D_read 22 rfl) 2 rfl ?_
                    refine x_iconst (pc := 44) (v := 2) C (by decide) (d_D_read 23 rfl) ?_
                    refine x_iload_n (pc := 45) C (d_D_read 24 rfl) rfl 5 rfl ?_
                    refine x_iload_n (pc := 46) C (d_D_read 25 rfl) rfl 6 rfl ?_
                    cases c25 : f_P_beWaiting i16 2 x2 x3 st with
                    | none => rw [c25] at h; cases h
                    | some w28 =>
                      obtain ⟨v26, st27⟩ := w28
                      rw [c25] at h
                      dsimp only at h
                      refine x_callV (mc := 0) (ms := 0) (pc := 47) (bL := [xI (2), xI (x2), xI (x3)]) (K := []) C cs_D_129 (m_P_beWaiting l c25 : x_M l _ _ _ _ (.inl none) _ 0 0) (by decide) rfl (Nat.le_of_ble_eq_true rfl) (d_D_read 26 rfl) ?_
                      exact x_sub [3, 6, 2, 1, 0] rfl (v_D_read_50 C hret hmn hex hfl _ _ _ _ _ _ h)
              · rw [c20] at h; try rw [c20]
                dsimp only at h
                refine x_iconst (pc := 24) (v := (-1)) C (by decide) (d_D_read 12 rfl) ?_
                cases h
                exact x_iret (pc := 25) C hret rfl (Nat.zero_le _) (Nat.zero_le _) (d_D_read 13 rfl)
def f_D_showByte (x0 : Nat) (x1 : Int32) (st : XS) : Option (Unit × XS) :=
  match st.2.2.1 0 x0 5 with
  | none => none
  | some i1 =>
    if (st.1 5 i1 2) < 60 then
      match f_B_addLast i1 x1 st with
      | none => none
      | some (_, st6) =>
        some ((), xsI st6 0 x0 6 ((st6.1 0 x0 6) + (1 : Int32)))
    else
      match f_B_takeFirst i1 st with
      | none => none
      | some (v9, st10) =>
        match st10.2.2.1 0 x0 5 with
        | none => none
        | some i11 =>
          match f_B_addLast i11 x1 st10 with
          | none => none
          | some (_, st15) =>
            some ((), xsI st15 0 x0 6 ((st15.1 0 x0 6) + (1 : Int32)))
set_option maxRecDepth 100000 in
set_option maxHeartbeats 4000000 in
theorem m_D_showByte (l : Launch) {x0 : Nat} {x1 : Int32} {st : XS} {r : Unit} {st2 : XS} (h : f_D_showByte x0 x1 st = some (r, st2)) : x_M l M_D_showByte rm_D_showByte [xR 0 (some (x0)), xI (x1)] st (.inl (none)) st2 0 0 := by
  refine x_enter (Nat.le_of_ble_eq_true rfl) ?_
  intro p e s m below meth c D cA g args B C
  have hret := B.2.2.2.2.2.2.2.2.1
  have hmn := B.2.2.2.2.2.2.2.1
  have hex := B.2.2.2.2.2.2.2.2.2.1
  unfold f_D_showByte at h
  refine x_aload_n (pc := 0) C (d_D_showByte 0 rfl) rfl 0 rfl ?_
  refine x_getR (pc := 1) (t := 5) C fl_D_40 rfl rfl (d_D_showByte 1 rfl) ?_
  cases c2 : st.2.2.1 0 x0 5 with
  | none => rw [c2] at h; cases h
  | some i1 =>
    rw [c2] at h
    dsimp only at h
    refine x_getI (pc := 4) C fl_D_169 rfl (d_D_showByte 2 rfl) ?_
    refine x_bipush (pc := 7) (v := 60) C (by decide) (d_D_showByte 3 rfl) ?_
    refine x_icmp_lt (pc := 9) (tgt := 20) C (d_D_showByte 4 rfl) (by decide) (fun c3 => ?_) (fun c3 => ?_)
    · rw [if_pos c3] at h
      refine x_aload_n (pc := 20) C (d_D_showByte 9 rfl) rfl 0 rfl ?_
      refine x_getR (pc := 21) (t := 5) C fl_D_40 rfl rfl (d_D_showByte 10 rfl) ?_
      rw [c2]
      refine x_iload_n (pc := 24) C (d_D_showByte 11 rfl) rfl 1 rfl ?_
      cases c4 : f_B_addLast i1 x1 st with
      | none => rw [c4] at h; cases h
      | some w7 =>
        obtain ⟨v5, st6⟩ := w7
        rw [c4] at h
        dsimp only at h
        refine x_callV (mc := 0) (ms := 0) (pc := 25) (bL := [xI (x1)]) (K := []) C cs_D_172 (m_B_addLast l c4 : x_M l _ _ _ _ (.inl none) _ 0 0) (by decide) rfl (Nat.le_of_ble_eq_true rfl) (d_D_showByte 12 rfl) ?_
        refine x_aload_n (pc := 28) C (d_D_showByte 13 rfl) rfl 0 rfl ?_
        refine x_dup (pc := 29) C rfl (d_D_showByte 14 rfl) ?_
        refine x_getI (pc := 30) C fl_D_43 rfl (d_D_showByte 15 rfl) ?_
        refine x_iconst (pc := 33) (v := 1) C (by decide) (d_D_showByte 16 rfl) ?_
        refine x_iadd (pc := 34) C (d_D_showByte 17 rfl) ?_
        refine x_putI (pc := 35) C fl_D_43 (pf_D_43 _) rfl ty_0_6 (d_D_showByte 18 rfl) ?_
        cases h
        exact x_vret (pc := 38) C hret (Nat.zero_le _) (Nat.zero_le _) (d_D_showByte 19 rfl)
    · rw [if_neg c3] at h
      refine x_aload_n (pc := 12) C (d_D_showByte 5 rfl) rfl 0 rfl ?_
      refine x_getR (pc := 13) (t := 5) C fl_D_40 rfl rfl (d_D_showByte 6 rfl) ?_
      rw [c2]
      cases c8 : f_B_takeFirst i1 st with
      | none => rw [c8] at h; cases h
      | some w17 =>
        obtain ⟨v9, st10⟩ := w17
        rw [c8] at h
        dsimp only at h
        refine x_callV (mc := 0) (ms := 0) (pc := 16) (bL := []) (K := []) C cs_D_281 (m_B_takeFirst l c8 : x_M l _ _ _ _ (.inl (some (xI v9))) _ 0 0) (by decide) rfl (Nat.le_of_ble_eq_true rfl) (d_D_showByte 7 rfl) ?_
        refine x_popv (pc := 19) C rfl (d_D_showByte 8 rfl) ?_
        refine x_aload_n (pc := 20) C (d_D_showByte 9 rfl) rfl 0 rfl ?_
        refine x_getR (pc := 21) (t := 5) C fl_D_40 rfl rfl (d_D_showByte 10 rfl) ?_
        refine x_iload_n (pc := 24) C (d_D_showByte 11 rfl) rfl 1 rfl ?_
        cases c12 : st10.2.2.1 0 x0 5 with
        | none => rw [c12] at h; cases h
        | some i11 =>
          rw [c12] at h
          dsimp only at h
          cases c13 : f_B_addLast i11 x1 st10 with
          | none => rw [c13] at h; cases h
          | some w16 =>
            obtain ⟨v14, st15⟩ := w16
            rw [c13] at h
            dsimp only at h
            refine x_callV (mc := 0) (ms := 0) (pc := 25) (bL := [xI (x1)]) (K := []) C cs_D_172 (m_B_addLast l c13 : x_M l _ _ _ _ (.inl none) _ 0 0) (by decide) rfl (Nat.le_of_ble_eq_true rfl) (d_D_showByte 12 rfl) ?_
            refine x_aload_n (pc := 28) C (d_D_showByte 13 rfl) rfl 0 rfl ?_
            refine x_dup (pc := 29) C rfl (d_D_showByte 14 rfl) ?_
            refine x_getI (pc := 30) C fl_D_43 rfl (d_D_showByte 15 rfl) ?_
            refine x_iconst (pc := 33) (v := 1) C (by decide) (d_D_showByte 16 rfl) ?_
            refine x_iadd (pc := 34) C (d_D_showByte 17 rfl) ?_
            refine x_putI (pc := 35) C fl_D_43 (pf_D_43 _) rfl ty_0_6 (d_D_showByte 18 rfl) ?_
            cases h
            exact x_vret (pc := 38) C hret (Nat.zero_le _) (Nat.zero_le _) (d_D_showByte 19 rfl)
def f_D_putByte (x0 : Nat) (x1 : Option Nat) (x2 : Int32) (st : XS) : Option (Unit × XS) :=
  match x1 with
  | none => none
  | some i1 =>
    match st.2.2.1 2 i1 0 with
    | none =>
      match st.2.2.1 2 i1 1 with
      | none =>
        match f_D_showByte x0 x2 st with
        | none => none
        | some (_, st9) =>
          some ((), st9)
      | some i6 =>
        match f_F_put i6 (st.1 2 i1 2) x2 st with
        | none => none
        | some (_, st13) =>
          some ((), xsI st13 2 i1 2 ((st13.1 2 i1 2) + (1 : Int32)))
    | some i4 =>
      match st.2.2.1 3 i4 0 with
      | none => none
      | some i15 =>
        match f_B_addLast i15 x2 st with
        | none => none
        | some (_, st19) =>
          some ((), st19)
set_option maxRecDepth 100000 in
set_option maxHeartbeats 4000000 in
theorem m_D_putByte (l : Launch) {x0 : Nat} {x1 : Option Nat} {x2 : Int32} {st : XS} {r : Unit} {st2 : XS} (h : f_D_putByte x0 x1 x2 st = some (r, st2)) : x_M l M_D_putByte rm_D_putByte [xR 0 (some (x0)), xR 2 (x1), xI (x2)] st (.inl (none)) st2 0 0 := by
  refine x_enter (Nat.le_of_ble_eq_true rfl) ?_
  intro p e s m below meth c D cA g args B C
  have hret := B.2.2.2.2.2.2.2.2.1
  have hmn := B.2.2.2.2.2.2.2.1
  have hex := B.2.2.2.2.2.2.2.2.2.1
  unfold f_D_putByte at h
  refine x_aload_n (pc := 0) C (d_D_putByte 0 rfl) rfl 1 rfl ?_
  cases c2 : x1 with
  | none => rw [c2] at h; cases h
  | some i1 =>
    rw [c2] at h
    dsimp only at h
    refine x_getR (pc := 1) (t := 3) C fl_D_246 rfl rfl (d_D_putByte 1 rfl) ?_
    refine x_ifnull (pc := 4) (tgt := 21) C (d_D_putByte 2 rfl) (by decide) (fun c3 => ?_) (fun i4 c3 => ?_)
    · rw [c3] at h; try rw [c3]
      dsimp only at h
      refine x_aload_n (pc := 21) C (d_D_putByte 9 rfl) rfl 1 rfl ?_
      refine x_getR (pc := 22) (t := 4) C fl_D_158 rfl rfl (d_D_putByte 10 rfl) ?_
      refine x_ifnull (pc := 25) (tgt := 53) C (d_D_putByte 11 rfl) (by decide) (fun c5 => ?_) (fun i6 c5 => ?_)
      · rw [c5] at h; try rw [c5]
        dsimp only at h
        refine x_aload_n (pc := 53) C (d_D_putByte 25 rfl) rfl 0 rfl ?_
        refine x_iload_n (pc := 54) C (d_D_putByte 26 rfl) rfl 2 rfl ?_
        cases c7 : f_D_showByte x0 x2 st with
        | none => rw [c7] at h; cases h
        | some w10 =>
          obtain ⟨v8, st9⟩ := w10
          rw [c7] at h
          dsimp only at h
          refine x_callV (mc := 0) (ms := 0) (pc := 55) (bL := [xI (x2)]) (K := []) C cs_D_298 (m_D_showByte l c7 : x_M l _ _ _ _ (.inl none) _ 0 0) (by decide) rfl (Nat.le_of_ble_eq_true rfl) (d_D_putByte 27 rfl) ?_
          cases h
          exact x_vret (pc := 58) C hret (Nat.zero_le _) (Nat.zero_le _) (d_D_putByte 28 rfl)
      · rw [c5] at h; try rw [c5]
        dsimp only at h
        refine x_aload_n (pc := 28) C (d_D_putByte 12 rfl) rfl 1 rfl ?_
        refine x_getR (pc := 29) (t := 4) C fl_D_158 rfl rfl (d_D_putByte 13 rfl) ?_
        rw [c5]
        refine x_aload_n (pc := 32) C (d_D_putByte 14 rfl) rfl 1 rfl ?_
        refine x_getI (pc := 33) C fl_D_162 rfl (d_D_putByte 15 rfl) ?_
        refine x_iload_n (pc := 36) C (d_D_putByte 16 rfl) rfl 2 rfl ?_
        cases c11 : f_F_put i6 (st.1 2 i1 2) x2 st with
        | none => rw [c11] at h; cases h
        | some w14 =>
          obtain ⟨v12, st13⟩ := w14
          rw [c11] at h
          dsimp only at h
          refine x_callV (mc := 0) (ms := 0) (pc := 37) (bL := [xI (st.1 2 i1 2), xI (x2)]) (K := []) C cs_D_295 (m_F_put l c11 : x_M l _ _ _ _ (.inl none) _ 0 0) (by decide) rfl (Nat.le_of_ble_eq_true rfl) (d_D_putByte 17 rfl) ?_
          refine x_aload_n (pc := 40) C (d_D_putByte 18 rfl) rfl 1 rfl ?_
          refine x_dup (pc := 41) C rfl (d_D_putByte 19 rfl) ?_
          refine x_getI (pc := 42) C fl_D_162 rfl (d_D_putByte 20 rfl) ?_
          refine x_iconst (pc := 45) (v := 1) C (by decide) (d_D_putByte 21 rfl) ?_
          refine x_iadd (pc := 46) C (d_D_putByte 22 rfl) ?_
          refine x_putI (pc := 47) C fl_D_162 (pf_D_162 _) rfl ty_2_2 (d_D_putByte 23 rfl) ?_
          refine x_goto (pc := 50) (tgt := 58) C (d_D_putByte 24 rfl) (by decide) ?_
          cases h
          exact x_vret (pc := 58) C hret (Nat.zero_le _) (Nat.zero_le _) (d_D_putByte 28 rfl)
    · rw [c3] at h; try rw [c3]
      dsimp only at h
      refine x_aload_n (pc := 7) C (d_D_putByte 3 rfl) rfl 1 rfl ?_
      refine x_getR (pc := 8) (t := 3) C fl_D_246 rfl rfl (d_D_putByte 4 rfl) ?_
      rw [c3]
      refine x_getR (pc := 11) (t := 5) C fl_D_250 rfl rfl (d_D_putByte 5 rfl) ?_
      refine x_iload_n (pc := 14) C (d_D_putByte 6 rfl) rfl 2 rfl ?_
      cases c16 : st.2.2.1 3 i4 0 with
      | none => rw [c16] at h; cases h
      | some i15 =>
        rw [c16] at h
        dsimp only at h
        cases c17 : f_B_addLast i15 x2 st with
        | none => rw [c17] at h; cases h
        | some w20 =>
          obtain ⟨v18, st19⟩ := w20
          rw [c17] at h
          dsimp only at h
          refine x_callV (mc := 0) (ms := 0) (pc := 15) (bL := [xI (x2)]) (K := []) C cs_D_172 (m_B_addLast l c17 : x_M l _ _ _ _ (.inl none) _ 0 0) (by decide) rfl (Nat.le_of_ble_eq_true rfl) (d_D_putByte 7 rfl) ?_
          refine x_goto (pc := 18) (tgt := 58) C (d_D_putByte 8 rfl) (by decide) ?_
          cases h
          exact x_vret (pc := 58) C hret (Nat.zero_le _) (Nat.zero_le _) (d_D_putByte 28 rfl)
def f_D_put_30  : Nat → Nat → Option Nat → Int64 → Int32 → XS → Option (Unit × XS)
  | 0, _, _, _, _, _ => none
  | n + 1, x0, x1, x2, x5, st =>
    if x5 < 0 then
      some ((), st)
    else
      match f_D_putByte x0 (x1) ((((x2.toUInt64 >>> (((8 : Int32) * x5).toInt64.toUInt64 &&& Int64.toUInt64 63)).toInt64).toInt32) &&& (255 : Int32)) st with
      | none => none
      | some (_, st4) =>
        f_D_put_30 n x0 (x1) x2 (x5 + (-1)) st4
set_option maxRecDepth 100000 in
set_option maxHeartbeats 4000000 in
theorem v_D_put_30 {p : Program} {l : Launch} {e : Env} {s : State} {m : MethodId} {args : Array Value} {below : List Frame} {meth : Method} {c : Code} {D : va_G} {cA : Nat → ClassId} {g0 : Nat → Nat → Nat} {n0 : Nat → Nat} {r : Unit} {st2 : XS} (C : x_C p e rm_D_put s m args meth c D cA (x_A g0 n0 s.heap.size) M_D_put.2.1 M_D_put.1 M_D_put.2.2.1) (hret : meth.sig.returnType = M_D_put.2.2.2.1) (hmn : meth.name = M_D_put.2.2.2.2.2) (hex : c.exceptionTable.toList.map (fun h => (h.startPc, h.endPc, h.handlerPc, h.catchType)) = M_D_put.2.2.2.2.1)  : ∀ (n : Nat) (x0 : Nat) (x1 : Option Nat) (x2 : Int64) (x5 : Int32) (st : XS), f_D_put_30 n x0 x1 x2 x5 st = some (r, st2) → x_V p l e rm_D_put s m args below meth c D cA (x_A g0 n0 s.heap.size) M_D_put.2.2.1 g0 n0 (x_MQ D cA g0 n0 below s 0 0 (.inl (none)) st2) 30 [(0, xR 0 (some (x0))), (1, xR 2 (x1)), (2, xL (x2)), (5, xI (x5))] [] st 0 0 := by
  intro n
  induction n with
  | zero => intro x0 x1 x2 x5 st h; cases h
  | succ n ih =>
    intro x0 x1 x2 x5 st h
    rw [f_D_put_30.eq_def] at h
    dsimp only at h
    refine x_iload (pc := 30) C (d_D_put 15 rfl) 3 rfl ?_
    refine x_if_lt (pc := 32) (tgt := 58) C (d_D_put 16 rfl) (by decide) (fun c1 => ?_) (fun c1 => ?_)
    · rw [if_pos c1] at h
      cases h
      exact x_vret (pc := 58) C hret (Nat.zero_le _) (Nat.zero_le _) (d_D_put 30 rfl)
    · rw [if_neg c1] at h
      refine x_aload_n (pc := 35) C (d_D_put 17 rfl) rfl 0 rfl ?_
      refine x_aload_n (pc := 36) C (d_D_put 18 rfl) rfl 1 rfl ?_
      refine x_lload_n (pc := 37) C (d_D_put 19 rfl) rfl 2 rfl ?_
      refine x_bipush (pc := 38) (v := 8) C (by decide) (d_D_put 20 rfl) ?_
      refine x_iload (pc := 40) C (d_D_put 21 rfl) 3 rfl ?_
      refine x_imul (pc := 42) C (d_D_put 22 rfl) ?_
      refine x_lushr (pc := 43) C (d_D_put 23 rfl) ?_
      refine x_l2i (pc := 44) C (d_D_put 24 rfl) ?_
      refine x_sipush (pc := 45) (v := 255) C (by decide) (d_D_put 25 rfl) ?_
      refine x_iand (pc := 48) C (d_D_put 26 rfl) ?_
      cases c2 : f_D_putByte x0 (x1) ((((x2.toUInt64 >>> (((8 : Int32) * x5).toInt64.toUInt64 &&& Int64.toUInt64 63)).toInt64).toInt32) &&& (255 : Int32)) st with
      | none => rw [c2] at h; cases h
      | some w5 =>
        obtain ⟨v3, st4⟩ := w5
        rw [c2] at h
        dsimp only at h
        refine x_callV (mc := 0) (ms := 0) (pc := 49) (bL := [xR 2 (x1), xI ((((x2.toUInt64 >>> (((8 : Int32) * x5).toInt64.toUInt64 &&& Int64.toUInt64 63)).toInt64).toInt32) &&& (255 : Int32))]) (K := []) C cs_D_291 (m_D_putByte l c2 : x_M l _ _ _ _ (.inl none) _ 0 0) (by decide) rfl (Nat.le_of_ble_eq_true rfl) (d_D_put 27 rfl) ?_
        refine x_iinc (pc := 52) (v := x5 + (-1)) (L2 := [(5, xI (x5 + (-1))), (0, xR 0 (some (x0))), (1, xR 2 (x1)), (2, xL (x2))]) C (d_D_put 28 rfl) 3 rfl rfl (by decide) rfl ?_
        refine x_goto (pc := 55) (tgt := 30) C (d_D_put 29 rfl) (by decide) ?_
        exact x_sub [1, 2, 3, 0] rfl (ih _ _ _ _ _ h)
def f_D_put (x0 : Nat) (x1 : Option Nat) (x2 : Int64) (x4 : Int32) (st : XS) : Option (Unit × XS) :=
  if x4 ≤ 0 then
    f_D_put_30 100 x0 (x1) x2 (x4 - (1 : Int32)) st
  else
    match x1 with
    | none => none
    | some i7 =>
      match st.2.2.1 2 i7 1 with
      | none =>
        f_D_put_30 100 x0 (some (i7)) x2 (x4 - (1 : Int32)) st
      | some i10 =>
        match f_D_placeToWrite (some (i7)) (some (i10)) st with
        | none => none
        | some v12 =>
          f_D_put_30 100 x0 (some (i7)) x2 (x4 - (1 : Int32)) (xsI st 2 i7 2 v12)
set_option maxRecDepth 100000 in
set_option maxHeartbeats 4000000 in
theorem m_D_put (l : Launch) {x0 : Nat} {x1 : Option Nat} {x2 : Int64} {x4 : Int32} {st : XS} {r : Unit} {st2 : XS} (h : f_D_put x0 x1 x2 x4 st = some (r, st2)) : x_M l M_D_put rm_D_put [xR 0 (some (x0)), xR 2 (x1), xL (x2), xI (x4)] st (.inl (none)) st2 0 0 := by
  refine x_enter (Nat.le_of_ble_eq_true rfl) ?_
  intro p e s m below meth c D cA g args B C
  have hret := B.2.2.2.2.2.2.2.2.1
  have hmn := B.2.2.2.2.2.2.2.1
  have hex := B.2.2.2.2.2.2.2.2.2.1
  unfold f_D_put at h
  refine x_iload (pc := 0) C (d_D_put 0 rfl) 3 rfl ?_
  refine x_if_le (pc := 2) (tgt := 24) C (d_D_put 1 rfl) (by decide) (fun c6 => ?_) (fun c6 => ?_)
  · rw [if_pos c6] at h
    refine x_iload (pc := 24) C (d_D_put 11 rfl) 3 rfl ?_
    refine x_iconst (pc := 26) (v := 1) C (by decide) (d_D_put 12 rfl) ?_
    refine x_isub (pc := 27) C (d_D_put 13 rfl) ?_
    refine x_istore (pc := 28) (L2 := [(5, xI (x4 - (1 : Int32))), (0, xR 0 (some (x0))), (1, xR 2 (x1)), (2, xL (x2)), (4, xI (x4))]) C (d_D_put 14 rfl) (by decide) rfl ?_
    exact x_sub [1, 2, 3, 0] rfl (v_D_put_30 C hret hmn hex 100 _ _ _ _ _ h)
  · rw [if_neg c6] at h
    refine x_aload_n (pc := 5) C (d_D_put 2 rfl) rfl 1 rfl ?_
    cases c8 : x1 with
    | none => rw [c8] at h; cases h
    | some i7 =>
      rw [c8] at h
      dsimp only at h
      refine x_getR (pc := 6) (t := 4) C fl_D_158 rfl rfl (d_D_put 3 rfl) ?_
      refine x_ifnull (pc := 9) (tgt := 24) C (d_D_put 4 rfl) (by decide) (fun c9 => ?_) (fun i10 c9 => ?_)
      · rw [c9] at h; try rw [c9]
        dsimp only at h
        refine x_iload (pc := 24) C (d_D_put 11 rfl) 3 rfl ?_
        refine x_iconst (pc := 26) (v := 1) C (by decide) (d_D_put 12 rfl) ?_
        refine x_isub (pc := 27) C (d_D_put 13 rfl) ?_
        refine x_istore (pc := 28) (L2 := [(5, xI (x4 - (1 : Int32))), (0, xR 0 (some (x0))), (1, xR 2 (some (i7))), (2, xL (x2)), (4, xI (x4))]) C (d_D_put 14 rfl) (by decide) rfl ?_
        exact x_sub [1, 2, 3, 0] rfl (v_D_put_30 C hret hmn hex 100 _ _ _ _ _ h)
      · rw [c9] at h; try rw [c9]
        dsimp only at h
        refine x_aload_n (pc := 12) C (d_D_put 5 rfl) rfl 1 rfl ?_
        refine x_aload_n (pc := 13) C (d_D_put 6 rfl) rfl 1 rfl ?_
        refine x_aload_n (pc := 14) C (d_D_put 7 rfl) rfl 1 rfl ?_
        refine x_getR (pc := 15) (t := 4) C fl_D_158 rfl rfl (d_D_put 8 rfl) ?_
        rw [c9]
        cases c11 : f_D_placeToWrite (some (i7)) (some (i10)) st with
        | none => rw [c11] at h; cases h
        | some v12 =>
          rw [c11] at h
          dsimp only at h
          refine x_callS (mc := 0) (ms := 0) (pc := 18) (aL := [xR 2 (some (i7)), xR 4 (some (i10))]) (K := [xR 2 (some (i7))]) C cs_D_259 (m_D_placeToWrite l c11 : x_M l _ _ _ _ (.inl (some (xI v12))) _ 0 0) (by decide) rfl (Nat.le_of_ble_eq_true rfl) (d_D_put 9 rfl) ?_
          refine x_putI (pc := 21) C fl_D_162 (pf_D_162 _) rfl ty_2_2 (d_D_put 10 rfl) ?_
          refine x_iload (pc := 24) C (d_D_put 11 rfl) 3 rfl ?_
          refine x_iconst (pc := 26) (v := 1) C (by decide) (d_D_put 12 rfl) ?_
          refine x_isub (pc := 27) C (d_D_put 13 rfl) ?_
          refine x_istore (pc := 28) (L2 := [(5, xI (x4 - (1 : Int32))), (0, xR 0 (some (x0))), (1, xR 2 (some (i7))), (2, xL (x2)), (4, xI (x4))]) C (d_D_put 14 rfl) (by decide) rfl ?_
          exact x_sub [1, 2, 3, 0] rfl (v_D_put_30 C hret hmn hex 100 _ _ _ _ _ h)
def f_D_write (x0 : Nat) (x1 : Int32) (x2 : Int32) (x3 : Int64) (x5 : Int32) (st : XS) : Option ((Int32 ⊕ String) × XS) :=
  match f_D_readyProc x0 x1 st with
  | none => none
  | some (.inr e_41) => some (.inr e_41, st)
  | some (.inl v2) =>
    match f_D_checkAmount x5 st with
    | none => none
    | some (.inr e_39) => some (.inr e_39, st)
    | some (.inl _) =>
      match v2 with
      | none => none
      | some i5 =>
        match f_P_openingAt i5 x2 st with
        | none => none
        | some v8 =>
          match v8 with
          | none =>
            some (.inl ((-1)), st)
          | some i10 =>
            match f_D_hindranceToWrite (some (i10)) x5 st with
            | none => none
            | some v12 =>
              if v12 = ((-6)) then
                match f_P_beWaiting i5 3 x2 x5 st with
                | none => none
                | some (_, st25) =>
                  if v12 = 0 then
                    match f_D_put x0 (some (i10)) x3 x5 st25 with
                    | none => none
                    | some (_, st29) =>
                      match f_D_wakeAll x0 st29 with
                      | none => none
                      | some (v31, st32) =>
                        some (.inl (x5), st32)
                  else
                    some (.inl (v12), st25)
              else
                if v12 = 0 then
                  match f_D_put x0 (some (i10)) x3 x5 st with
                  | none => none
                  | some (_, st17) =>
                    match f_D_wakeAll x0 st17 with
                    | none => none
                    | some (v19, st20) =>
                      some (.inl (x5), st20)
                else
                  some (.inl (v12), st)
set_option maxRecDepth 100000 in
set_option maxHeartbeats 4000000 in
theorem m_D_write (l : Launch) (hfl : l.flags = flags0) {x0 : Nat} {x1 : Int32} {x2 : Int32} {x3 : Int64} {x5 : Int32} {st : XS} {r : Int32 ⊕ String} {st2 : XS} (h : f_D_write x0 x1 x2 x3 x5 st = some (r, st2)) : x_M l M_D_write rm_D_write [xR 0 (some (x0)), xI (x1), xI (x2), xL (x3), xI (x5)] st (xth (fun v => some (xI v)) r) st2 (xmc r) (xms r) := by
  refine x_enter (Nat.le_of_ble_eq_true rfl) ?_
  intro p e s m below meth c D cA g args B C
  have hret := B.2.2.2.2.2.2.2.2.1
  have hmn := B.2.2.2.2.2.2.2.1
  have hex := B.2.2.2.2.2.2.2.2.2.1
  unfold f_D_write at h
  refine x_aload_n (pc := 0) C (d_D_write 0 rfl) rfl 0 rfl ?_
  refine x_iload_n (pc := 1) C (d_D_write 1 rfl) rfl 1 rfl ?_
  cases c1 : f_D_readyProc x0 x1 st with
  | none => rw [c1] at h; cases h
  | some w40 =>
    cases w40 with
    | inr e_41 =>
      rw [c1] at h
      dsimp only at h
      cases h
      exact x_callVt (mc := 1) (ms := 6) (pc := 2) (bL := [xI (x1)]) (K := []) C cs_D_69 (m_D_readyProc l hfl c1 : x_M l _ _ _ _ (.inr e_41) _ 1 6) (by decide) rfl (Nat.le_of_ble_eq_true rfl) (d_D_write 2 rfl) (x_out C (by rw [List.map_eq_nil_iff.mp hex]; intro x hx; cases hx) (Nat.le_refl 1) (Nat.le_refl 6))
    | inl v2 =>
      rw [c1] at h
      dsimp only at h
      refine x_callV (mc := 0) (ms := 0) (pc := 2) (bL := [xI (x1)]) (K := []) C cs_D_69 (m_D_readyProc l hfl c1 : x_M l _ _ _ _ (.inl (some (xR 1 v2))) _ 0 0) (by decide) rfl (Nat.le_of_ble_eq_true rfl) (d_D_write 2 rfl) ?_
      refine x_astore (pc := 5) (L2 := [(6, xR 1 (v2)), (0, xR 0 (some (x0))), (1, xI (x1)), (2, xI (x2)), (3, xL (x3)), (5, xI (x5))]) C (d_D_write 3 rfl) (by decide) rfl ?_
      refine x_iload (pc := 7) C (d_D_write 4 rfl) 5 rfl ?_
      cases c3 : f_D_checkAmount x5 st with
      | none => rw [c3] at h; cases h
      | some w38 =>
        cases w38 with
        | inr e_39 =>
          rw [c3] at h
          dsimp only at h
          cases h
          exact x_callSt (mc := 1) (ms := 6) (pc := 9) (aL := [xI (x5)]) (K := []) C cs_D_122 (m_D_checkAmount l hfl c3 : x_M l _ _ _ _ (.inr e_39) _ 1 6) (by decide) rfl (Nat.le_of_ble_eq_true rfl) (d_D_write 5 rfl) (x_out C (by rw [List.map_eq_nil_iff.mp hex]; intro x hx; cases hx) (Nat.le_refl 1) (Nat.le_refl 6))
        | inl v4 =>
          rw [c3] at h
          dsimp only at h
          refine x_callS (mc := 0) (ms := 0) (pc := 9) (aL := [xI (x5)]) (K := []) C cs_D_122 (m_D_checkAmount l hfl c3 : x_M l _ _ _ _ (.inl none) _ 0 0) (by decide) rfl (Nat.le_of_ble_eq_true rfl) (d_D_write 5 rfl) ?_
          refine x_aload (pc := 12) C (d_D_write 6 rfl) 0 rfl ?_
          refine x_iload_n (pc := 14) C (d_D_write 7 rfl) rfl 3 rfl ?_
          cases c6 : v2 with
          | none => rw [c6] at h; cases h
          | some i5 =>
            rw [c6] at h
            dsimp only at h
            cases c7 : f_P_openingAt i5 x2 st with
            | none => rw [c7] at h; cases h
            | some v8 =>
              rw [c7] at h
              dsimp only at h
              refine x_callV (mc := 0) (ms := 0) (pc := 15) (bL := [xI (x2)]) (K := []) C cs_D_73 (m_P_openingAt l c7 : x_M l _ _ _ _ (.inl (some (xR 2 v8))) _ 0 0) (by decide) rfl (Nat.le_of_ble_eq_true rfl) (d_D_write 8 rfl) ?_
              refine x_astore (pc := 18) (L2 := [(7, xR 2 (v8)), (6, xR 1 (some (i5))), (0, xR 0 (some (x0))), (1, xI (x1)), (2, xI (x2)), (3, xL (x3)), (5, xI (x5))]) C (d_D_write 9 rfl) (by decide) rfl ?_
              refine x_aload (pc := 20) C (d_D_write 10 rfl) 0 rfl ?_
              refine x_ifnonnull (pc := 22) (tgt := 27) C (d_D_write 11 rfl) (by decide) (fun i10 c9 => ?_) (fun c9 => ?_)
              · rw [c9] at h; try rw [c9]
                dsimp only at h
                refine x_aload (pc := 27) C (d_D_write 14 rfl) 0 rfl ?_
                refine x_iload (pc := 29) C (d_D_write 15 rfl) 6 rfl ?_
                cases c11 : f_D_hindranceToWrite (some (i10)) x5 st with
                | none => rw [c11] at h; cases h
                | some v12 =>
                  rw [c11] at h
                  dsimp only at h
                  refine x_callS (mc := 0) (ms := 0) (pc := 31) (aL := [xR 2 (some (i10)), xI (x5)]) (K := []) C cs_D_141 (m_D_hindranceToWrite l c11 : x_M l _ _ _ _ (.inl (some (xI v12))) _ 0 0) (by decide) rfl (Nat.le_of_ble_eq_true rfl) (d_D_write 16 rfl) ?_
                  refine x_istore (pc := 34) (L2 := [(8, xI (v12)), (7, xR 2 (some (i10))), (6, xR 1 (some (i5))), (0, xR 0 (some (x0))), (1, xI (x1)), (2, xI (x2)), (3, xL (x3)), (5, xI (x5))]) C (d_D_write 17 rfl) (by decide) rfl ?_
                  refine x_iload (pc := 36) C (d_D_write 18 rfl) 0 rfl ?_
                  refine x_bipush (pc := 38) (v := (-6)) C (by decide) (d_D_write 19 rfl) ?_
                  refine x_icmp_ne (pc := 40) (tgt := 52) C (d_D_write 20 rfl) (by decide) (fun c13 => ?_) (fun c13 => ?_)
                  · rw [if_neg c13] at h
                    refine x_iload (pc := 52) C (d_D_write 26 rfl) 0 rfl ?_
                    refine x_if_eq (pc := 54) (tgt := 60) C (d_D_write 27 rfl) (by decide) (fun c14 => ?_) (fun c14 => ?_)
                    · rw [if_pos c14] at h
                      refine x_aload_n (pc := 60) C (d_D_write 30 rfl) rfl 3 rfl ?_
                      refine x_aload (pc := 61) C (d_D_write 31 rfl) 1 rfl ?_
                      refine x_lload_n (pc := 63) C (d_D_write 32 rfl) rfl 6 rfl ?_
                      refine x_iload (pc := 64) C (d_D_write 33 rfl) 7 rfl ?_
                      cases c15 : f_D_put x0 (some (i10)) x3 x5 st with
                      | none => rw [c15] at h; cases h
                      | some w22 =>
                        obtain ⟨v16, st17⟩ := w22
                        rw [c15] at h
                        dsimp only at h
                        refine x_callV (mc := 0) (ms := 0) (pc := 66) (bL := [xR 2 (some (i10)), xL (x3), xI (x5)]) (K := []) C cs_D_144 (m_D_put l c15 : x_M l _ _ _ _ (.inl none) _ 0 0) (by decide) rfl (Nat.le_of_ble_eq_true rfl) (d_D_write 34 rfl) ?_
                        refine x_aload_n (pc := 69) C (d_D_write 35 rfl) rfl 3 rfl ?_
                        cases c18 : f_D_wakeAll x0 st17 with
                        | none => rw [c18] at h; cases h
                        | some w21 =>
                          obtain ⟨v19, st20⟩ := w21
                          rw [c18] at h
                          dsimp only at h
                          refine x_callV (mc := 0) (ms := 0) (pc := 70) (bL := []) (K := []) C cs_D_90 (m_D_wakeAll l c18 : x_M l _ _ _ _ (.inl (some (xI v19))) _ 0 0) (by decide) rfl (Nat.le_of_ble_eq_true rfl) (d_D_write 36 rfl) ?_
                          refine x_popv (pc := 73) C rfl (d_D_write 37 rfl) ?_
                          refine x_iload (pc := 74) C (d_D_write 38 rfl) 7 rfl ?_
                          cases h
                          exact x_iret (pc := 76) C hret rfl (Nat.zero_le _) (Nat.zero_le _) (d_D_write 39 rfl)
                    · rw [if_neg c14] at h
                      refine x_iload (pc := 57) C (d_D_write 28 rfl) 0 rfl ?_
                      cases h
                      exact x_iret (pc := 59) C hret rfl (Nat.zero_le _) (Nat.zero_le _) (d_D_write 29 rfl)
                  · rw [if_pos c13] at h
                    refine x_aload (pc := 43) C (d_D_write 21 rfl) 2 rfl ?_
                    refine x_iconst (pc := 45) (v := 3) C (by decide) (d_D_write 22 rfl) ?_
                    refine x_iload_n (pc := 46) C (d_D_write 23 rfl) rfl 5 rfl ?_
                    refine x_iload (pc := 47) C (d_D_write 24 rfl) 7 rfl ?_
                    cases c23 : f_P_beWaiting i5 3 x2 x5 st with
                    | none => rw [c23] at h; cases h
                    | some w35 =>
                      obtain ⟨v24, st25⟩ := w35
                      rw [c23] at h
                      dsimp only at h
                      refine x_callV (mc := 0) (ms := 0) (pc := 49) (bL := [xI (3), xI (x2), xI (x5)]) (K := []) C cs_D_129 (m_P_beWaiting l c23 : x_M l _ _ _ _ (.inl none) _ 0 0) (by decide) rfl (Nat.le_of_ble_eq_true rfl) (d_D_write 25 rfl) ?_
                      refine x_iload (pc := 52) C (d_D_write 26 rfl) 0 rfl ?_
                      refine x_if_eq (pc := 54) (tgt := 60) C (d_D_write 27 rfl) (by decide) (fun c26 => ?_) (fun c26 => ?_)
                      · rw [if_pos c26] at h
                        refine x_aload_n (pc := 60) C (d_D_write 30 rfl) rfl 3 rfl ?_
                        refine x_aload (pc := 61) C (d_D_write 31 rfl) 1 rfl ?_
                        refine x_lload_n (pc := 63) C (d_D_write 32 rfl) rfl 6 rfl ?_
                        refine x_iload (pc := 64) C (d_D_write 33 rfl) 7 rfl ?_
                        cases c27 : f_D_put x0 (some (i10)) x3 x5 st25 with
                        | none => rw [c27] at h; cases h
                        | some w34 =>
                          obtain ⟨v28, st29⟩ := w34
                          rw [c27] at h
                          dsimp only at h
                          refine x_callV (mc := 0) (ms := 0) (pc := 66) (bL := [xR 2 (some (i10)), xL (x3), xI (x5)]) (K := []) C cs_D_144 (m_D_put l c27 : x_M l _ _ _ _ (.inl none) _ 0 0) (by decide) rfl (Nat.le_of_ble_eq_true rfl) (d_D_write 34 rfl) ?_
                          refine x_aload_n (pc := 69) C (d_D_write 35 rfl) rfl 3 rfl ?_
                          cases c30 : f_D_wakeAll x0 st29 with
                          | none => rw [c30] at h; cases h
                          | some w33 =>
                            obtain ⟨v31, st32⟩ := w33
                            rw [c30] at h
                            dsimp only at h
                            refine x_callV (mc := 0) (ms := 0) (pc := 70) (bL := []) (K := []) C cs_D_90 (m_D_wakeAll l c30 : x_M l _ _ _ _ (.inl (some (xI v31))) _ 0 0) (by decide) rfl (Nat.le_of_ble_eq_true rfl) (d_D_write 36 rfl) ?_
                            refine x_popv (pc := 73) C rfl (d_D_write 37 rfl) ?_
                            refine x_iload (pc := 74) C (d_D_write 38 rfl) 7 rfl ?_
                            cases h
                            exact x_iret (pc := 76) C hret rfl (Nat.zero_le _) (Nat.zero_le _) (d_D_write 39 rfl)
                      · rw [if_neg c26] at h
                        refine x_iload (pc := 57) C (d_D_write 28 rfl) 0 rfl ?_
                        cases h
                        exact x_iret (pc := 59) C hret rfl (Nat.zero_le _) (Nat.zero_le _) (d_D_write 29 rfl)
              · rw [c9] at h; try rw [c9]
                dsimp only at h
                refine x_iconst (pc := 25) (v := (-1)) C (by decide) (d_D_write 12 rfl) ?_
                cases h
                exact x_iret (pc := 26) C hret rfl (Nat.zero_le _) (Nat.zero_le _) (d_D_write 13 rfl)
def f_D_close (x0 : Nat) (x1 : Int32) (x2 : Int32) (st : XS) : Option ((Int32 ⊕ String) × XS) :=
  match f_D_readyProc x0 x1 st with
  | none => none
  | some (.inr e_19) => some (.inr e_19, st)
  | some (.inl v2) =>
    match v2 with
    | none => none
    | some i3 =>
      match f_P_openingAt i3 x2 st with
      | none => none
      | some v6 =>
        match v6 with
        | none =>
          some (.inl ((-1)), st)
        | some i8 =>
          match f_P_release i3 x2 st with
          | none => none
          | some (_, st11) =>
            match f_D_wakeAll x0 st11 with
            | none => none
            | some (v13, st14) =>
              some (.inl (0), st14)
set_option maxRecDepth 100000 in
set_option maxHeartbeats 4000000 in
theorem m_D_close (l : Launch) (hfl : l.flags = flags0) {x0 : Nat} {x1 : Int32} {x2 : Int32} {st : XS} {r : Int32 ⊕ String} {st2 : XS} (h : f_D_close x0 x1 x2 st = some (r, st2)) : x_M l M_D_close rm_D_close [xR 0 (some (x0)), xI (x1), xI (x2)] st (xth (fun v => some (xI v)) r) st2 (xmc r) (xms r) := by
  refine x_enter (Nat.le_of_ble_eq_true rfl) ?_
  intro p e s m below meth c D cA g args B C
  have hret := B.2.2.2.2.2.2.2.2.1
  have hmn := B.2.2.2.2.2.2.2.1
  have hex := B.2.2.2.2.2.2.2.2.2.1
  unfold f_D_close at h
  refine x_aload_n (pc := 0) C (d_D_close 0 rfl) rfl 0 rfl ?_
  refine x_iload_n (pc := 1) C (d_D_close 1 rfl) rfl 1 rfl ?_
  cases c1 : f_D_readyProc x0 x1 st with
  | none => rw [c1] at h; cases h
  | some w18 =>
    cases w18 with
    | inr e_19 =>
      rw [c1] at h
      dsimp only at h
      cases h
      exact x_callVt (mc := 1) (ms := 6) (pc := 2) (bL := [xI (x1)]) (K := []) C cs_D_69 (m_D_readyProc l hfl c1 : x_M l _ _ _ _ (.inr e_19) _ 1 6) (by decide) rfl (Nat.le_of_ble_eq_true rfl) (d_D_close 2 rfl) (x_out C (by rw [List.map_eq_nil_iff.mp hex]; intro x hx; cases hx) (Nat.le_refl 1) (Nat.le_refl 6))
    | inl v2 =>
      rw [c1] at h
      dsimp only at h
      refine x_callV (mc := 0) (ms := 0) (pc := 2) (bL := [xI (x1)]) (K := []) C cs_D_69 (m_D_readyProc l hfl c1 : x_M l _ _ _ _ (.inl (some (xR 1 v2))) _ 0 0) (by decide) rfl (Nat.le_of_ble_eq_true rfl) (d_D_close 2 rfl) ?_
      refine x_astore_n (pc := 5) (L2 := [(3, xR 1 (v2)), (0, xR 0 (some (x0))), (1, xI (x1)), (2, xI (x2))]) C (d_D_close 3 rfl) rfl (by decide) rfl ?_
      refine x_aload_n (pc := 6) C (d_D_close 4 rfl) rfl 0 rfl ?_
      refine x_iload_n (pc := 7) C (d_D_close 5 rfl) rfl 3 rfl ?_
      cases c4 : v2 with
      | none => rw [c4] at h; cases h
      | some i3 =>
        rw [c4] at h
        dsimp only at h
        cases c5 : f_P_openingAt i3 x2 st with
        | none => rw [c5] at h; cases h
        | some v6 =>
          rw [c5] at h
          dsimp only at h
          refine x_callV (mc := 0) (ms := 0) (pc := 8) (bL := [xI (x2)]) (K := []) C cs_D_73 (m_P_openingAt l c5 : x_M l _ _ _ _ (.inl (some (xR 2 v6))) _ 0 0) (by decide) rfl (Nat.le_of_ble_eq_true rfl) (d_D_close 6 rfl) ?_
          refine x_ifnonnull (pc := 11) (tgt := 16) C (d_D_close 7 rfl) (by decide) (fun i8 c7 => ?_) (fun c7 => ?_)
          · rw [c7] at h; try rw [c7]
            dsimp only at h
            refine x_aload_n (pc := 16) C (d_D_close 10 rfl) rfl 0 rfl ?_
            refine x_iload_n (pc := 17) C (d_D_close 11 rfl) rfl 3 rfl ?_
            cases c9 : f_P_release i3 x2 st with
            | none => rw [c9] at h; cases h
            | some w16 =>
              obtain ⟨v10, st11⟩ := w16
              rw [c9] at h
              dsimp only at h
              refine x_callV (mc := 0) (ms := 0) (pc := 18) (bL := [xI (x2)]) (K := []) C cs_D_148 (m_P_release l c9 : x_M l _ _ _ _ (.inl none) _ 0 0) (by decide) rfl (Nat.le_of_ble_eq_true rfl) (d_D_close 12 rfl) ?_
              refine x_aload_n (pc := 21) C (d_D_close 13 rfl) rfl 1 rfl ?_
              cases c12 : f_D_wakeAll x0 st11 with
              | none => rw [c12] at h; cases h
              | some w15 =>
                obtain ⟨v13, st14⟩ := w15
                rw [c12] at h
                dsimp only at h
                refine x_callV (mc := 0) (ms := 0) (pc := 22) (bL := []) (K := []) C cs_D_90 (m_D_wakeAll l c12 : x_M l _ _ _ _ (.inl (some (xI v13))) _ 0 0) (by decide) rfl (Nat.le_of_ble_eq_true rfl) (d_D_close 14 rfl) ?_
                refine x_popv (pc := 25) C rfl (d_D_close 15 rfl) ?_
                refine x_iconst (pc := 26) (v := 0) C (by decide) (d_D_close 16 rfl) ?_
                cases h
                exact x_iret (pc := 27) C hret rfl (Nat.zero_le _) (Nat.zero_le _) (d_D_close 17 rfl)
          · rw [c7] at h; try rw [c7]
            dsimp only at h
            refine x_iconst (pc := 14) (v := (-1)) C (by decide) (d_D_close 8 rfl) ?_
            cases h
            exact x_iret (pc := 15) C hret rfl (Nat.zero_le _) (Nat.zero_le _) (d_D_close 9 rfl)
def f_D_dup (x0 : Nat) (x1 : Int32) (x2 : Int32) (x3 : Int32) (st : XS) : Option ((Int32 ⊕ String) × XS) :=
  match f_D_readyProc x0 x1 st with
  | none => none
  | some (.inr e_35) => some (.inr e_35, st)
  | some (.inl v2) =>
    if x3 < ((-1)) then
      some (.inr "java/lang/IllegalArgumentException", st)
    else
      if x3 < 8 then
        match v2 with
        | none => none
        | some i5 =>
          match f_P_openingAt i5 x2 st with
          | none => none
          | some v8 =>
            match v8 with
            | none =>
              some (.inl ((-1)), st)
            | some i10 =>
              if x3 = ((-1)) then
                match f_P_freeFrom i5 0 st with
                | none => none
                | some v22 =>
                  if 0 ≤ v22 then
                    match f_P_hold i5 v22 (some (i10)) st with
                    | none => none
                    | some (_, st26) =>
                      match f_D_wakeAll x0 st26 with
                      | none => none
                      | some (v28, st29) =>
                        some (.inl (v22), st29)
                  else
                    some (.inl ((-4)), st)
              else
                if 0 ≤ x3 then
                  match f_P_hold i5 x3 (some (i10)) st with
                  | none => none
                  | some (_, st15) =>
                    match f_D_wakeAll x0 st15 with
                    | none => none
                    | some (v17, st18) =>
                      some (.inl (x3), st18)
                else
                  some (.inl ((-4)), st)
      else
        some (.inr "java/lang/IllegalArgumentException", st)
set_option maxRecDepth 100000 in
set_option maxHeartbeats 4000000 in
theorem m_D_dup (l : Launch) (hfl : l.flags = flags0) {x0 : Nat} {x1 : Int32} {x2 : Int32} {x3 : Int32} {st : XS} {r : Int32 ⊕ String} {st2 : XS} (h : f_D_dup x0 x1 x2 x3 st = some (r, st2)) : x_M l M_D_dup rm_D_dup [xR 0 (some (x0)), xI (x1), xI (x2), xI (x3)] st (xth (fun v => some (xI v)) r) st2 (xmc r) (xms r) := by
  refine x_enter (Nat.le_of_ble_eq_true rfl) ?_
  intro p e s m below meth c D cA g args B C
  have hret := B.2.2.2.2.2.2.2.2.1
  have hmn := B.2.2.2.2.2.2.2.1
  have hex := B.2.2.2.2.2.2.2.2.2.1
  unfold f_D_dup at h
  refine x_aload_n (pc := 0) C (d_D_dup 0 rfl) rfl 0 rfl ?_
  refine x_iload_n (pc := 1) C (d_D_dup 1 rfl) rfl 1 rfl ?_
  cases c1 : f_D_readyProc x0 x1 st with
  | none => rw [c1] at h; cases h
  | some w34 =>
    cases w34 with
    | inr e_35 =>
      rw [c1] at h
      dsimp only at h
      cases h
      exact x_callVt (mc := 1) (ms := 6) (pc := 2) (bL := [xI (x1)]) (K := []) C cs_D_69 (m_D_readyProc l hfl c1 : x_M l _ _ _ _ (.inr e_35) _ 1 6) (by decide) rfl (Nat.le_of_ble_eq_true rfl) (d_D_dup 2 rfl) (x_out C (by rw [List.map_eq_nil_iff.mp hex]; intro x hx; cases hx) (Nat.le_refl 1) (Nat.le_refl 6))
    | inl v2 =>
      rw [c1] at h
      dsimp only at h
      refine x_callV (mc := 0) (ms := 0) (pc := 2) (bL := [xI (x1)]) (K := []) C cs_D_69 (m_D_readyProc l hfl c1 : x_M l _ _ _ _ (.inl (some (xR 1 v2))) _ 0 0) (by decide) rfl (Nat.le_of_ble_eq_true rfl) (d_D_dup 2 rfl) ?_
      refine x_astore (pc := 5) (L2 := [(4, xR 1 (v2)), (0, xR 0 (some (x0))), (1, xI (x1)), (2, xI (x2)), (3, xI (x3))]) C (d_D_dup 3 rfl) (by decide) rfl ?_
      refine x_iload_n (pc := 7) C (d_D_dup 4 rfl) rfl 4 rfl ?_
      refine x_iconst (pc := 8) (v := (-1)) C (by decide) (d_D_dup 5 rfl) ?_
      refine x_icmp_lt (pc := 9) (tgt := 18) C (d_D_dup 6 rfl) (by decide) (fun c3 => ?_) (fun c3 => ?_)
      · rw [if_pos c3] at h
        cases h
        exact x_throw (pc := 18) (tx := "no such descriptor to copy to") C hfl w_449 w_450 w_12 (by decide +kernel) oa_D_155 (by decide +kernel) hex (Nat.le_of_ble_eq_true rfl) (by decide) (by decide) (Nat.le_refl 1) (Nat.le_refl 6) (by decide) (by decide) (d_D_dup 10 rfl) (d_D_dup 11 rfl) (d_D_dup 12 rfl) (d_D_dup 13 rfl) (d_D_dup 14 rfl)
      · rw [if_neg c3] at h
        refine x_iload_n (pc := 12) C (d_D_dup 7 rfl) rfl 4 rfl ?_
        refine x_bipush (pc := 13) (v := 8) C (by decide) (d_D_dup 8 rfl) ?_
        refine x_icmp_lt (pc := 15) (tgt := 28) C (d_D_dup 9 rfl) (by decide) (fun c4 => ?_) (fun c4 => ?_)
        · rw [if_pos c4] at h
          refine x_aload (pc := 28) C (d_D_dup 15 rfl) 0 rfl ?_
          refine x_iload_n (pc := 30) C (d_D_dup 16 rfl) rfl 3 rfl ?_
          cases c6 : v2 with
          | none => rw [c6] at h; cases h
          | some i5 =>
            rw [c6] at h
            dsimp only at h
            cases c7 : f_P_openingAt i5 x2 st with
            | none => rw [c7] at h; cases h
            | some v8 =>
              rw [c7] at h
              dsimp only at h
              refine x_callV (mc := 0) (ms := 0) (pc := 31) (bL := [xI (x2)]) (K := []) C cs_D_73 (m_P_openingAt l c7 : x_M l _ _ _ _ (.inl (some (xR 2 v8))) _ 0 0) (by decide) rfl (Nat.le_of_ble_eq_true rfl) (d_D_dup 17 rfl) ?_
              refine x_astore (pc := 34) (L2 := [(5, xR 2 (v8)), (4, xR 1 (some (i5))), (0, xR 0 (some (x0))), (1, xI (x1)), (2, xI (x2)), (3, xI (x3))]) C (d_D_dup 18 rfl) (by decide) rfl ?_
              refine x_aload (pc := 36) C (d_D_dup 19 rfl) 0 rfl ?_
              refine x_ifnonnull (pc := 38) (tgt := 43) C (d_D_dup 20 rfl) (by decide) (fun i10 c9 => ?_) (fun c9 => ?_)
              · rw [c9] at h; try rw [c9]
                dsimp only at h
                refine x_iload_n (pc := 43) C (d_D_dup 23 rfl) rfl 5 rfl ?_
                refine x_iconst (pc := 44) (v := (-1)) C (by decide) (d_D_dup 24 rfl) ?_
                refine x_icmp_ne (pc := 45) (tgt := 57) C (d_D_dup 25 rfl) (by decide) (fun c11 => ?_) (fun c11 => ?_)
                · rw [if_neg c11] at h
                  refine x_iload_n (pc := 57) C (d_D_dup 30 rfl) rfl 5 rfl ?_
                  refine x_istore (pc := 58) (L2 := [(6, xI (x3)), (5, xR 2 (some (i10))), (4, xR 1 (some (i5))), (0, xR 0 (some (x0))), (1, xI (x1)), (2, xI (x2)), (3, xI (x3))]) C (d_D_dup 31 rfl) (by decide) rfl ?_
                  refine x_iload (pc := 60) C (d_D_dup 32 rfl) 0 rfl ?_
                  refine x_if_ge (pc := 62) (tgt := 68) C (d_D_dup 33 rfl) (by decide) (fun c12 => ?_) (fun c12 => ?_)
                  · rw [if_pos c12] at h
                    refine x_aload (pc := 68) C (d_D_dup 36 rfl) 2 rfl ?_
                    refine x_iload (pc := 70) C (d_D_dup 37 rfl) 0 rfl ?_
                    refine x_aload (pc := 72) C (d_D_dup 38 rfl) 1 rfl ?_
                    cases c13 : f_P_hold i5 x3 (some (i10)) st with
                    | none => rw [c13] at h; cases h
                    | some w20 =>
                      obtain ⟨v14, st15⟩ := w20
                      rw [c13] at h
                      dsimp only at h
                      refine x_callV (mc := 0) (ms := 0) (pc := 74) (bL := [xI (x3), xR 2 (some (i10))]) (K := []) C cs_D_65 (m_P_hold l c13 : x_M l _ _ _ _ (.inl none) _ 0 0) (by decide) rfl (Nat.le_of_ble_eq_true rfl) (d_D_dup 39 rfl) ?_
                      refine x_aload_n (pc := 77) C (d_D_dup 40 rfl) rfl 3 rfl ?_
                      cases c16 : f_D_wakeAll x0 st15 with
                      | none => rw [c16] at h; cases h
                      | some w19 =>
                        obtain ⟨v17, st18⟩ := w19
                        rw [c16] at h
                        dsimp only at h
                        refine x_callV (mc := 0) (ms := 0) (pc := 78) (bL := []) (K := []) C cs_D_90 (m_D_wakeAll l c16 : x_M l _ _ _ _ (.inl (some (xI v17))) _ 0 0) (by decide) rfl (Nat.le_of_ble_eq_true rfl) (d_D_dup 41 rfl) ?_
                        refine x_popv (pc := 81) C rfl (d_D_dup 42 rfl) ?_
                        refine x_iload (pc := 82) C (d_D_dup 43 rfl) 0 rfl ?_
                        cases h
                        exact x_iret (pc := 84) C hret rfl (Nat.zero_le _) (Nat.zero_le _) (d_D_dup 44 rfl)
                  · rw [if_neg c12] at h
                    refine x_bipush (pc := 65) (v := (-4)) C (by decide) (d_D_dup 34 rfl) ?_
                    cases h
                    exact x_iret (pc := 67) C hret rfl (Nat.zero_le _) (Nat.zero_le _) (d_D_dup 35 rfl)
                · rw [if_pos c11] at h
                  refine x_aload (pc := 48) C (d_D_dup 26 rfl) 1 rfl ?_
                  refine x_iconst (pc := 50) (v := 0) C (by decide) (d_D_dup 27 rfl) ?_
                  cases c21 : f_P_freeFrom i5 0 st with
                  | none => rw [c21] at h; cases h
                  | some v22 =>
                    rw [c21] at h
                    dsimp only at h
                    refine x_callV (mc := 0) (ms := 0) (pc := 51) (bL := [xI (0)]) (K := []) C cs_D_108 (m_P_freeFrom l c21 : x_M l _ _ _ _ (.inl (some (xI v22))) _ 0 0) (by decide) rfl (Nat.le_of_ble_eq_true rfl) (d_D_dup 28 rfl) ?_
                    refine x_goto (pc := 54) (tgt := 58) C (d_D_dup 29 rfl) (by decide) ?_
                    refine x_istore (pc := 58) (L2 := [(6, xI (v22)), (5, xR 2 (some (i10))), (4, xR 1 (some (i5))), (0, xR 0 (some (x0))), (1, xI (x1)), (2, xI (x2)), (3, xI (x3))]) C (d_D_dup 31 rfl) (by decide) rfl ?_
                    refine x_iload (pc := 60) C (d_D_dup 32 rfl) 0 rfl ?_
                    refine x_if_ge (pc := 62) (tgt := 68) C (d_D_dup 33 rfl) (by decide) (fun c23 => ?_) (fun c23 => ?_)
                    · rw [if_pos c23] at h
                      refine x_aload (pc := 68) C (d_D_dup 36 rfl) 2 rfl ?_
                      refine x_iload (pc := 70) C (d_D_dup 37 rfl) 0 rfl ?_
                      refine x_aload (pc := 72) C (d_D_dup 38 rfl) 1 rfl ?_
                      cases c24 : f_P_hold i5 v22 (some (i10)) st with
                      | none => rw [c24] at h; cases h
                      | some w31 =>
                        obtain ⟨v25, st26⟩ := w31
                        rw [c24] at h
                        dsimp only at h
                        refine x_callV (mc := 0) (ms := 0) (pc := 74) (bL := [xI (v22), xR 2 (some (i10))]) (K := []) C cs_D_65 (m_P_hold l c24 : x_M l _ _ _ _ (.inl none) _ 0 0) (by decide) rfl (Nat.le_of_ble_eq_true rfl) (d_D_dup 39 rfl) ?_
                        refine x_aload_n (pc := 77) C (d_D_dup 40 rfl) rfl 3 rfl ?_
                        cases c27 : f_D_wakeAll x0 st26 with
                        | none => rw [c27] at h; cases h
                        | some w30 =>
                          obtain ⟨v28, st29⟩ := w30
                          rw [c27] at h
                          dsimp only at h
                          refine x_callV (mc := 0) (ms := 0) (pc := 78) (bL := []) (K := []) C cs_D_90 (m_D_wakeAll l c27 : x_M l _ _ _ _ (.inl (some (xI v28))) _ 0 0) (by decide) rfl (Nat.le_of_ble_eq_true rfl) (d_D_dup 41 rfl) ?_
                          refine x_popv (pc := 81) C rfl (d_D_dup 42 rfl) ?_
                          refine x_iload (pc := 82) C (d_D_dup 43 rfl) 0 rfl ?_
                          cases h
                          exact x_iret (pc := 84) C hret rfl (Nat.zero_le _) (Nat.zero_le _) (d_D_dup 44 rfl)
                    · rw [if_neg c23] at h
                      refine x_bipush (pc := 65) (v := (-4)) C (by decide) (d_D_dup 34 rfl) ?_
                      cases h
                      exact x_iret (pc := 67) C hret rfl (Nat.zero_le _) (Nat.zero_le _) (d_D_dup 35 rfl)
              · rw [c9] at h; try rw [c9]
                dsimp only at h
                refine x_iconst (pc := 41) (v := (-1)) C (by decide) (d_D_dup 21 rfl) ?_
                cases h
                exact x_iret (pc := 42) C hret rfl (Nat.zero_le _) (Nat.zero_le _) (d_D_dup 22 rfl)
        · rw [if_neg c4] at h
          cases h
          exact x_throw (pc := 18) (tx := "no such descriptor to copy to") C hfl w_449 w_450 w_12 (by decide +kernel) oa_D_155 (by decide +kernel) hex (Nat.le_of_ble_eq_true rfl) (by decide) (by decide) (Nat.le_refl 1) (Nat.le_refl 6) (by decide) (by decide) (d_D_dup 10 rfl) (d_D_dup 11 rfl) (d_D_dup 12 rfl) (d_D_dup 13 rfl) (d_D_dup 14 rfl)
def f_D_seek_82  (x3 : Int32) (x6 : Option Nat) (s0 : Int32) (st : XS) : Option ((Int32 ⊕ String) × XS) :=
  if (lg_cmp ((s0.toInt64) + (x3.toInt64)) 0) < 0 then
    some (.inl ((-1)), st)
  else
    if (lg_cmp ((s0.toInt64) + (x3.toInt64)) 64) ≤ 0 then
      match x6 with
      | none => none
      | some i3 =>
        some (.inl ((xsI st 2 i3 2 (((s0.toInt64) + (x3.toInt64)).toInt32)).1 2 i3 2), xsI st 2 i3 2 (((s0.toInt64) + (x3.toInt64)).toInt32))
    else
      some (.inl ((-1)), st)
set_option maxRecDepth 100000 in
set_option maxHeartbeats 4000000 in
theorem v_D_seek_82 {p : Program} {l : Launch} {e : Env} {s : State} {m : MethodId} {args : Array Value} {below : List Frame} {meth : Method} {c : Code} {D : va_G} {cA : Nat → ClassId} {g0 : Nat → Nat → Nat} {n0 : Nat → Nat} {r : Int32 ⊕ String} {st2 : XS} (C : x_C p e rm_D_seek s m args meth c D cA (x_A g0 n0 s.heap.size) M_D_seek.2.1 M_D_seek.1 M_D_seek.2.2.1) (hret : meth.sig.returnType = M_D_seek.2.2.2.1) (hmn : meth.name = M_D_seek.2.2.2.2.2) (hex : c.exceptionTable.toList.map (fun h => (h.startPc, h.endPc, h.handlerPc, h.catchType)) = M_D_seek.2.2.2.2.1) (hfl : l.flags = flags0)  (x3 : Int32) (x6 : Option Nat) (s0 : Int32) (st : XS) (h : f_D_seek_82 x3 x6 s0 st = some (r, st2)) : x_V p l e rm_D_seek s m args below meth c D cA (x_A g0 n0 s.heap.size) M_D_seek.2.2.1 g0 n0 (x_MQ D cA g0 n0 below s (xmc r) (xms r) (xth (fun v => some (xI v)) r) st2) 82 [(3, xI (x3)), (6, xR 2 (x6))] [xI (s0)] st 0 0 := by
  unfold f_D_seek_82 at h
  refine x_istore (pc := 82) (L2 := [(7, xI (s0)), (3, xI (x3)), (6, xR 2 (x6))]) C (d_D_seek 38 rfl) (by decide) rfl ?_
  refine x_iload (pc := 84) C (d_D_seek 39 rfl) 0 rfl ?_
  refine x_i2l (pc := 86) C (d_D_seek 40 rfl) ?_
  refine x_iload_n (pc := 87) C (d_D_seek 41 rfl) rfl 1 rfl ?_
  refine x_i2l (pc := 88) C (d_D_seek 42 rfl) ?_
  refine x_ladd (pc := 89) C (d_D_seek 43 rfl) ?_
  refine x_lstore (pc := 90) (L2 := [(8, xL ((s0.toInt64) + (x3.toInt64))), (7, xI (s0)), (3, xI (x3)), (6, xR 2 (x6))]) C (d_D_seek 44 rfl) (by decide) rfl ?_
  refine x_lload (pc := 92) C (d_D_seek 45 rfl) 0 rfl ?_
  refine x_lconst (pc := 94) (v := 0) C (by decide) (d_D_seek 46 rfl) ?_
  refine x_lcmp (pc := 95) C (d_D_seek 47 rfl) ?_
  refine x_if_lt (pc := 96) (tgt := 108) C (d_D_seek 48 rfl) (by decide) (fun c1 => ?_) (fun c1 => ?_)
  · rw [if_pos c1] at h
    refine x_iconst (pc := 108) (v := (-1)) C (by decide) (d_D_seek 53 rfl) ?_
    cases h
    exact x_iret (pc := 109) C hret rfl (Nat.zero_le _) (Nat.zero_le _) (d_D_seek 54 rfl)
  · rw [if_neg c1] at h
    refine x_lload (pc := 99) C (d_D_seek 49 rfl) 0 rfl ?_
    refine x_ldc2 (pc := 101) C w_592 (d_D_seek 50 rfl) ?_
    refine x_lcmp (pc := 104) C (d_D_seek 51 rfl) ?_
    refine x_if_le (pc := 105) (tgt := 110) C (d_D_seek 52 rfl) (by decide) (fun c2 => ?_) (fun c2 => ?_)
    · rw [if_pos c2] at h
      refine x_aload (pc := 110) C (d_D_seek 55 rfl) 3 rfl ?_
      refine x_lload (pc := 112) C (d_D_seek 56 rfl) 0 rfl ?_
      refine x_l2i (pc := 114) C (d_D_seek 57 rfl) ?_
      cases c4 : x6 with
      | none => rw [c4] at h; cases h
      | some i3 =>
        rw [c4] at h
        dsimp only at h
        refine x_putI (pc := 115) C fl_D_162 (pf_D_162 _) rfl ty_2_2 (d_D_seek 58 rfl) ?_
        refine x_aload (pc := 118) C (d_D_seek 59 rfl) 3 rfl ?_
        refine x_getI (pc := 120) C fl_D_162 rfl (d_D_seek 60 rfl) ?_
        cases h
        exact x_iret (pc := 123) C hret rfl (Nat.zero_le _) (Nat.zero_le _) (d_D_seek 61 rfl)
    · rw [if_neg c2] at h
      refine x_iconst (pc := 108) (v := (-1)) C (by decide) (d_D_seek 53 rfl) ?_
      cases h
      exact x_iret (pc := 109) C hret rfl (Nat.zero_le _) (Nat.zero_le _) (d_D_seek 54 rfl)
def f_D_seek (x0 : Nat) (x1 : Int32) (x2 : Int32) (x3 : Int32) (x4 : Int32) (st : XS) : Option ((Int32 ⊕ String) × XS) :=
  match f_D_readyProc x0 x1 st with
  | none => none
  | some (.inr e_21) => some (.inr e_21, st)
  | some (.inl v6) =>
    if x4 < 0 then
      some (.inr "java/lang/IllegalArgumentException", st)
    else
      if x4 ≤ 2 then
        match v6 with
        | none => none
        | some i9 =>
          match f_P_openingAt i9 x2 st with
          | none => none
          | some v12 =>
            match v12 with
            | none =>
              some (.inl ((-1)), st)
            | some i14 =>
              match st.2.2.1 2 i14 1 with
              | none =>
                some (.inl ((-1)), st)
              | some i16 =>
                if x4 = 0 then
                  f_D_seek_82 x3 (some (i14)) 0 st
                else
                  if x4 = 1 then
                    f_D_seek_82 x3 (some (i14)) (st.1 2 i14 2) st
                  else
                    f_D_seek_82 x3 (some (i14)) (st.1 4 i16 1) st
      else
        some (.inr "java/lang/IllegalArgumentException", st)
set_option maxRecDepth 100000 in
set_option maxHeartbeats 4000000 in
theorem m_D_seek (l : Launch) (hfl : l.flags = flags0) {x0 : Nat} {x1 : Int32} {x2 : Int32} {x3 : Int32} {x4 : Int32} {st : XS} {r : Int32 ⊕ String} {st2 : XS} (h : f_D_seek x0 x1 x2 x3 x4 st = some (r, st2)) : x_M l M_D_seek rm_D_seek [xR 0 (some (x0)), xI (x1), xI (x2), xI (x3), xI (x4)] st (xth (fun v => some (xI v)) r) st2 (xmc r) (xms r) := by
  refine x_enter (Nat.le_of_ble_eq_true rfl) ?_
  intro p e s m below meth c D cA g args B C
  have hret := B.2.2.2.2.2.2.2.2.1
  have hmn := B.2.2.2.2.2.2.2.1
  have hex := B.2.2.2.2.2.2.2.2.2.1
  unfold f_D_seek at h
  refine x_aload_n (pc := 0) C (d_D_seek 0 rfl) rfl 0 rfl ?_
  refine x_iload_n (pc := 1) C (d_D_seek 1 rfl) rfl 1 rfl ?_
  cases c5 : f_D_readyProc x0 x1 st with
  | none => rw [c5] at h; cases h
  | some w20 =>
    cases w20 with
    | inr e_21 =>
      rw [c5] at h
      dsimp only at h
      cases h
      exact x_callVt (mc := 1) (ms := 6) (pc := 2) (bL := [xI (x1)]) (K := []) C cs_D_69 (m_D_readyProc l hfl c5 : x_M l _ _ _ _ (.inr e_21) _ 1 6) (by decide) rfl (Nat.le_of_ble_eq_true rfl) (d_D_seek 2 rfl) (x_out C (by rw [List.map_eq_nil_iff.mp hex]; intro x hx; cases hx) (Nat.le_refl 1) (Nat.le_refl 6))
    | inl v6 =>
      rw [c5] at h
      dsimp only at h
      refine x_callV (mc := 0) (ms := 0) (pc := 2) (bL := [xI (x1)]) (K := []) C cs_D_69 (m_D_readyProc l hfl c5 : x_M l _ _ _ _ (.inl (some (xR 1 v6))) _ 0 0) (by decide) rfl (Nat.le_of_ble_eq_true rfl) (d_D_seek 2 rfl) ?_
      refine x_astore (pc := 5) (L2 := [(5, xR 1 (v6)), (0, xR 0 (some (x0))), (1, xI (x1)), (2, xI (x2)), (3, xI (x3)), (4, xI (x4))]) C (d_D_seek 3 rfl) (by decide) rfl ?_
      refine x_iload (pc := 7) C (d_D_seek 4 rfl) 5 rfl ?_
      refine x_if_lt (pc := 9) (tgt := 18) C (d_D_seek 5 rfl) (by decide) (fun c7 => ?_) (fun c7 => ?_)
      · rw [if_pos c7] at h
        cases h
        exact x_throw (pc := 18) (tx := "from is not 0 .. 2") C hfl w_449 w_450 w_12 (by decide +kernel) oa_D_155 (by decide +kernel) hex (Nat.le_of_ble_eq_true rfl) (by decide) (by decide) (Nat.le_refl 1) (Nat.le_refl 6) (by decide) (by decide) (d_D_seek 9 rfl) (d_D_seek 10 rfl) (d_D_seek 11 rfl) (d_D_seek 12 rfl) (d_D_seek 13 rfl)
      · rw [if_neg c7] at h
        refine x_iload (pc := 12) C (d_D_seek 6 rfl) 5 rfl ?_
        refine x_iconst (pc := 14) (v := 2) C (by decide) (d_D_seek 7 rfl) ?_
        refine x_icmp_le (pc := 15) (tgt := 28) C (d_D_seek 8 rfl) (by decide) (fun c8 => ?_) (fun c8 => ?_)
        · rw [if_pos c8] at h
          refine x_aload (pc := 28) C (d_D_seek 14 rfl) 0 rfl ?_
          refine x_iload_n (pc := 30) C (d_D_seek 15 rfl) rfl 3 rfl ?_
          cases c10 : v6 with
          | none => rw [c10] at h; cases h
          | some i9 =>
            rw [c10] at h
            dsimp only at h
            cases c11 : f_P_openingAt i9 x2 st with
            | none => rw [c11] at h; cases h
            | some v12 =>
              rw [c11] at h
              dsimp only at h
              refine x_callV (mc := 0) (ms := 0) (pc := 31) (bL := [xI (x2)]) (K := []) C cs_D_73 (m_P_openingAt l c11 : x_M l _ _ _ _ (.inl (some (xR 2 v12))) _ 0 0) (by decide) rfl (Nat.le_of_ble_eq_true rfl) (d_D_seek 16 rfl) ?_
              refine x_astore (pc := 34) (L2 := [(6, xR 2 (v12)), (5, xR 1 (some (i9))), (0, xR 0 (some (x0))), (1, xI (x1)), (2, xI (x2)), (3, xI (x3)), (4, xI (x4))]) C (d_D_seek 17 rfl) (by decide) rfl ?_
              refine x_aload (pc := 36) C (d_D_seek 18 rfl) 0 rfl ?_
              refine x_ifnull (pc := 38) (tgt := 49) C (d_D_seek 19 rfl) (by decide) (fun c13 => ?_) (fun i14 c13 => ?_)
              · rw [c13] at h; try rw [c13]
                dsimp only at h
                refine x_iconst (pc := 49) (v := (-1)) C (by decide) (d_D_seek 23 rfl) ?_
                cases h
                exact x_iret (pc := 50) C hret rfl (Nat.zero_le _) (Nat.zero_le _) (d_D_seek 24 rfl)
              · rw [c13] at h; try rw [c13]
                dsimp only at h
                refine x_aload (pc := 41) C (d_D_seek 20 rfl) 0 rfl ?_
                refine x_getR (pc := 43) (t := 4) C fl_D_158 rfl rfl (d_D_seek 21 rfl) ?_
                refine x_ifnonnull (pc := 46) (tgt := 51) C (d_D_seek 22 rfl) (by decide) (fun i16 c15 => ?_) (fun c15 => ?_)
                · rw [c15] at h; try rw [c15]
                  dsimp only at h
                  refine x_iload (pc := 51) C (d_D_seek 25 rfl) 6 rfl ?_
                  refine x_if_ne (pc := 53) (tgt := 60) C (d_D_seek 26 rfl) (by decide) (fun c17 => ?_) (fun c17 => ?_)
                  · rw [if_neg c17] at h
                    refine x_iload (pc := 60) C (d_D_seek 29 rfl) 6 rfl ?_
                    refine x_iconst (pc := 62) (v := 1) C (by decide) (d_D_seek 30 rfl) ?_
                    refine x_icmp_ne (pc := 63) (tgt := 74) C (d_D_seek 31 rfl) (by decide) (fun c18 => ?_) (fun c18 => ?_)
                    · rw [if_neg c18] at h
                      refine x_aload (pc := 74) C (d_D_seek 35 rfl) 0 rfl ?_
                      refine x_getR (pc := 76) (t := 4) C fl_D_158 rfl rfl (d_D_seek 36 rfl) ?_
                      rw [c15]
                      refine x_getI (pc := 79) C fl_D_115 rfl (d_D_seek 37 rfl) ?_
                      exact x_sub [5, 0] rfl (v_D_seek_82 C hret hmn hex hfl _ _ _ _ h)
                    · rw [if_pos c18] at h
                      refine x_aload (pc := 66) C (d_D_seek 32 rfl) 0 rfl ?_
                      refine x_getI (pc := 68) C fl_D_162 rfl (d_D_seek 33 rfl) ?_
                      refine x_goto (pc := 71) (tgt := 82) C (d_D_seek 34 rfl) (by decide) ?_
                      exact x_sub [5, 0] rfl (v_D_seek_82 C hret hmn hex hfl _ _ _ _ h)
                  · rw [if_pos c17] at h
                    refine x_iconst (pc := 56) (v := 0) C (by decide) (d_D_seek 27 rfl) ?_
                    refine x_goto (pc := 57) (tgt := 82) C (d_D_seek 28 rfl) (by decide) ?_
                    exact x_sub [5, 0] rfl (v_D_seek_82 C hret hmn hex hfl _ _ _ _ h)
                · rw [c15] at h; try rw [c15]
                  dsimp only at h
                  refine x_iconst (pc := 49) (v := (-1)) C (by decide) (d_D_seek 23 rfl) ?_
                  cases h
                  exact x_iret (pc := 50) C hret rfl (Nat.zero_le _) (Nat.zero_le _) (d_D_seek 24 rfl)
        · rw [if_neg c8] at h
          cases h
          exact x_throw (pc := 18) (tx := "from is not 0 .. 2") C hfl w_449 w_450 w_12 (by decide +kernel) oa_D_155 (by decide +kernel) hex (Nat.le_of_ble_eq_true rfl) (by decide) (by decide) (Nat.le_refl 1) (Nat.le_refl 6) (by decide) (by decide) (d_D_seek 9 rfl) (d_D_seek 10 rfl) (d_D_seek 11 rfl) (d_D_seek 12 rfl) (d_D_seek 13 rfl)
def f_D_unlink (x0 : Nat) (x1 : Int32) (x2 : Int32) (st : XS) : Option ((Int32 ⊕ String) × XS) :=
  match f_D_readyProc x0 x1 st with
  | none => none
  | some (.inr e_13) => some (.inr e_13, st)
  | some (.inl v2) =>
    match f_D_checkName x2 st with
    | none => none
    | some (.inr e_11) => some (.inr e_11, st)
    | some (.inl _) =>
      match f_D_fileNamed x0 x2 st with
      | none => none
      | some v6 =>
        match v6 with
        | none =>
          some (.inl ((-2)), st)
        | some i8 =>
          some (.inl (0), xsI st 4 i8 2 0)
set_option maxRecDepth 100000 in
set_option maxHeartbeats 4000000 in
theorem m_D_unlink (l : Launch) (hfl : l.flags = flags0) {x0 : Nat} {x1 : Int32} {x2 : Int32} {st : XS} {r : Int32 ⊕ String} {st2 : XS} (h : f_D_unlink x0 x1 x2 st = some (r, st2)) : x_M l M_D_unlink rm_D_unlink [xR 0 (some (x0)), xI (x1), xI (x2)] st (xth (fun v => some (xI v)) r) st2 (xmc r) (xms r) := by
  refine x_enter (Nat.le_of_ble_eq_true rfl) ?_
  intro p e s m below meth c D cA g args B C
  have hret := B.2.2.2.2.2.2.2.2.1
  have hmn := B.2.2.2.2.2.2.2.1
  have hex := B.2.2.2.2.2.2.2.2.2.1
  unfold f_D_unlink at h
  refine x_aload_n (pc := 0) C (d_D_unlink 0 rfl) rfl 0 rfl ?_
  refine x_iload_n (pc := 1) C (d_D_unlink 1 rfl) rfl 1 rfl ?_
  cases c1 : f_D_readyProc x0 x1 st with
  | none => rw [c1] at h; cases h
  | some w12 =>
    cases w12 with
    | inr e_13 =>
      rw [c1] at h
      dsimp only at h
      cases h
      exact x_callVt (mc := 1) (ms := 6) (pc := 2) (bL := [xI (x1)]) (K := []) C cs_D_69 (m_D_readyProc l hfl c1 : x_M l _ _ _ _ (.inr e_13) _ 1 6) (by decide) rfl (Nat.le_of_ble_eq_true rfl) (d_D_unlink 2 rfl) (x_out C (by rw [List.map_eq_nil_iff.mp hex]; intro x hx; cases hx) (Nat.le_refl 1) (Nat.le_refl 6))
    | inl v2 =>
      rw [c1] at h
      dsimp only at h
      refine x_callV (mc := 0) (ms := 0) (pc := 2) (bL := [xI (x1)]) (K := []) C cs_D_69 (m_D_readyProc l hfl c1 : x_M l _ _ _ _ (.inl (some (xR 1 v2))) _ 0 0) (by decide) rfl (Nat.le_of_ble_eq_true rfl) (d_D_unlink 2 rfl) ?_
      refine x_popv (pc := 5) C rfl (d_D_unlink 3 rfl) ?_
      refine x_iload_n (pc := 6) C (d_D_unlink 4 rfl) rfl 2 rfl ?_
      cases c3 : f_D_checkName x2 st with
      | none => rw [c3] at h; cases h
      | some w10 =>
        cases w10 with
        | inr e_11 =>
          rw [c3] at h
          dsimp only at h
          cases h
          exact x_callSt (mc := 1) (ms := 6) (pc := 7) (aL := [xI (x2)]) (K := []) C cs_D_93 (m_D_checkName l hfl c3 : x_M l _ _ _ _ (.inr e_11) _ 1 6) (by decide) rfl (Nat.le_of_ble_eq_true rfl) (d_D_unlink 5 rfl) (x_out C (by rw [List.map_eq_nil_iff.mp hex]; intro x hx; cases hx) (Nat.le_refl 1) (Nat.le_refl 6))
        | inl v4 =>
          rw [c3] at h
          dsimp only at h
          refine x_callS (mc := 0) (ms := 0) (pc := 7) (aL := [xI (x2)]) (K := []) C cs_D_93 (m_D_checkName l hfl c3 : x_M l _ _ _ _ (.inl none) _ 0 0) (by decide) rfl (Nat.le_of_ble_eq_true rfl) (d_D_unlink 5 rfl) ?_
          refine x_aload_n (pc := 10) C (d_D_unlink 6 rfl) rfl 0 rfl ?_
          refine x_iload_n (pc := 11) C (d_D_unlink 7 rfl) rfl 2 rfl ?_
          cases c5 : f_D_fileNamed x0 x2 st with
          | none => rw [c5] at h; cases h
          | some v6 =>
            rw [c5] at h
            dsimp only at h
            refine x_callV (mc := 0) (ms := 0) (pc := 12) (bL := [xI (x2)]) (K := []) C cs_D_100 (m_D_fileNamed l c5 : x_M l _ _ _ _ (.inl (some (xR 4 v6))) _ 0 0) (by decide) rfl (Nat.le_of_ble_eq_true rfl) (d_D_unlink 8 rfl) ?_
            refine x_astore_n (pc := 15) (L2 := [(3, xR 4 (v6)), (0, xR 0 (some (x0))), (1, xI (x1)), (2, xI (x2))]) C (d_D_unlink 9 rfl) rfl (by decide) rfl ?_
            refine x_aload_n (pc := 16) C (d_D_unlink 10 rfl) rfl 0 rfl ?_
            refine x_ifnonnull (pc := 17) (tgt := 23) C (d_D_unlink 11 rfl) (by decide) (fun i8 c7 => ?_) (fun c7 => ?_)
            · rw [c7] at h; try rw [c7]
              dsimp only at h
              refine x_aload_n (pc := 23) C (d_D_unlink 14 rfl) rfl 0 rfl ?_
              refine x_iconst (pc := 24) (v := 0) C (by decide) (d_D_unlink 15 rfl) ?_
              refine x_putI (pc := 25) C fl_D_112 (pf_D_112 _) rfl ty_4_2 (d_D_unlink 16 rfl) ?_
              refine x_iconst (pc := 28) (v := 0) C (by decide) (d_D_unlink 17 rfl) ?_
              cases h
              exact x_iret (pc := 29) C hret rfl (Nat.zero_le _) (Nat.zero_le _) (d_D_unlink 18 rfl)
            · rw [c7] at h; try rw [c7]
              dsimp only at h
              refine x_bipush (pc := 20) (v := (-2)) C (by decide) (d_D_unlink 12 rfl) ?_
              cases h
              exact x_iret (pc := 22) C hret rfl (Nat.zero_le _) (Nat.zero_le _) (d_D_unlink 13 rfl)
def f_D_rename (x0 : Nat) (x1 : Int32) (x2 : Int32) (x3 : Int32) (st : XS) : Option ((Int32 ⊕ String) × XS) :=
  match f_D_readyProc x0 x1 st with
  | none => none
  | some (.inr e_22) => some (.inr e_22, st)
  | some (.inl v2) =>
    match f_D_checkName x2 st with
    | none => none
    | some (.inr e_20) => some (.inr e_20, st)
    | some (.inl _) =>
      match f_D_checkName x3 st with
      | none => none
      | some (.inr e_18) => some (.inr e_18, st)
      | some (.inl _) =>
        match f_D_fileNamed x0 x2 st with
        | none => none
        | some v8 =>
          match v8 with
          | none =>
            some (.inl ((-2)), st)
          | some i10 =>
            match f_D_fileNamed x0 x3 st with
            | none => none
            | some v12 =>
              match v12 with
              | none =>
                some (.inl (0), xsI st 4 i10 2 x3)
              | some i14 =>
                some (.inl (0), xsI (xsI st 4 i14 2 0) 4 i10 2 x3)
set_option maxRecDepth 100000 in
set_option maxHeartbeats 4000000 in
theorem m_D_rename (l : Launch) (hfl : l.flags = flags0) {x0 : Nat} {x1 : Int32} {x2 : Int32} {x3 : Int32} {st : XS} {r : Int32 ⊕ String} {st2 : XS} (h : f_D_rename x0 x1 x2 x3 st = some (r, st2)) : x_M l M_D_rename rm_D_rename [xR 0 (some (x0)), xI (x1), xI (x2), xI (x3)] st (xth (fun v => some (xI v)) r) st2 (xmc r) (xms r) := by
  refine x_enter (Nat.le_of_ble_eq_true rfl) ?_
  intro p e s m below meth c D cA g args B C
  have hret := B.2.2.2.2.2.2.2.2.1
  have hmn := B.2.2.2.2.2.2.2.1
  have hex := B.2.2.2.2.2.2.2.2.2.1
  unfold f_D_rename at h
  refine x_aload_n (pc := 0) C (d_D_rename 0 rfl) rfl 0 rfl ?_
  refine x_iload_n (pc := 1) C (d_D_rename 1 rfl) rfl 1 rfl ?_
  cases c1 : f_D_readyProc x0 x1 st with
  | none => rw [c1] at h; cases h
  | some w21 =>
    cases w21 with
    | inr e_22 =>
      rw [c1] at h
      dsimp only at h
      cases h
      exact x_callVt (mc := 1) (ms := 6) (pc := 2) (bL := [xI (x1)]) (K := []) C cs_D_69 (m_D_readyProc l hfl c1 : x_M l _ _ _ _ (.inr e_22) _ 1 6) (by decide) rfl (Nat.le_of_ble_eq_true rfl) (d_D_rename 2 rfl) (x_out C (by rw [List.map_eq_nil_iff.mp hex]; intro x hx; cases hx) (Nat.le_refl 1) (Nat.le_refl 6))
    | inl v2 =>
      rw [c1] at h
      dsimp only at h
      refine x_callV (mc := 0) (ms := 0) (pc := 2) (bL := [xI (x1)]) (K := []) C cs_D_69 (m_D_readyProc l hfl c1 : x_M l _ _ _ _ (.inl (some (xR 1 v2))) _ 0 0) (by decide) rfl (Nat.le_of_ble_eq_true rfl) (d_D_rename 2 rfl) ?_
      refine x_popv (pc := 5) C rfl (d_D_rename 3 rfl) ?_
      refine x_iload_n (pc := 6) C (d_D_rename 4 rfl) rfl 2 rfl ?_
      cases c3 : f_D_checkName x2 st with
      | none => rw [c3] at h; cases h
      | some w19 =>
        cases w19 with
        | inr e_20 =>
          rw [c3] at h
          dsimp only at h
          cases h
          exact x_callSt (mc := 1) (ms := 6) (pc := 7) (aL := [xI (x2)]) (K := []) C cs_D_93 (m_D_checkName l hfl c3 : x_M l _ _ _ _ (.inr e_20) _ 1 6) (by decide) rfl (Nat.le_of_ble_eq_true rfl) (d_D_rename 5 rfl) (x_out C (by rw [List.map_eq_nil_iff.mp hex]; intro x hx; cases hx) (Nat.le_refl 1) (Nat.le_refl 6))
        | inl v4 =>
          rw [c3] at h
          dsimp only at h
          refine x_callS (mc := 0) (ms := 0) (pc := 7) (aL := [xI (x2)]) (K := []) C cs_D_93 (m_D_checkName l hfl c3 : x_M l _ _ _ _ (.inl none) _ 0 0) (by decide) rfl (Nat.le_of_ble_eq_true rfl) (d_D_rename 5 rfl) ?_
          refine x_iload_n (pc := 10) C (d_D_rename 6 rfl) rfl 3 rfl ?_
          cases c5 : f_D_checkName x3 st with
          | none => rw [c5] at h; cases h
          | some w17 =>
            cases w17 with
            | inr e_18 =>
              rw [c5] at h
              dsimp only at h
              cases h
              exact x_callSt (mc := 1) (ms := 6) (pc := 11) (aL := [xI (x3)]) (K := []) C cs_D_93 (m_D_checkName l hfl c5 : x_M l _ _ _ _ (.inr e_18) _ 1 6) (by decide) rfl (Nat.le_of_ble_eq_true rfl) (d_D_rename 7 rfl) (x_out C (by rw [List.map_eq_nil_iff.mp hex]; intro x hx; cases hx) (Nat.le_refl 1) (Nat.le_refl 6))
            | inl v6 =>
              rw [c5] at h
              dsimp only at h
              refine x_callS (mc := 0) (ms := 0) (pc := 11) (aL := [xI (x3)]) (K := []) C cs_D_93 (m_D_checkName l hfl c5 : x_M l _ _ _ _ (.inl none) _ 0 0) (by decide) rfl (Nat.le_of_ble_eq_true rfl) (d_D_rename 7 rfl) ?_
              refine x_aload_n (pc := 14) C (d_D_rename 8 rfl) rfl 0 rfl ?_
              refine x_iload_n (pc := 15) C (d_D_rename 9 rfl) rfl 2 rfl ?_
              cases c7 : f_D_fileNamed x0 x2 st with
              | none => rw [c7] at h; cases h
              | some v8 =>
                rw [c7] at h
                dsimp only at h
                refine x_callV (mc := 0) (ms := 0) (pc := 16) (bL := [xI (x2)]) (K := []) C cs_D_100 (m_D_fileNamed l c7 : x_M l _ _ _ _ (.inl (some (xR 4 v8))) _ 0 0) (by decide) rfl (Nat.le_of_ble_eq_true rfl) (d_D_rename 10 rfl) ?_
                refine x_astore (pc := 19) (L2 := [(4, xR 4 (v8)), (0, xR 0 (some (x0))), (1, xI (x1)), (2, xI (x2)), (3, xI (x3))]) C (d_D_rename 11 rfl) (by decide) rfl ?_
                refine x_aload (pc := 21) C (d_D_rename 12 rfl) 0 rfl ?_
                refine x_ifnonnull (pc := 23) (tgt := 29) C (d_D_rename 13 rfl) (by decide) (fun i10 c9 => ?_) (fun c9 => ?_)
                · rw [c9] at h; try rw [c9]
                  dsimp only at h
                  refine x_aload_n (pc := 29) C (d_D_rename 16 rfl) rfl 1 rfl ?_
                  refine x_iload_n (pc := 30) C (d_D_rename 17 rfl) rfl 4 rfl ?_
                  cases c11 : f_D_fileNamed x0 x3 st with
                  | none => rw [c11] at h; cases h
                  | some v12 =>
                    rw [c11] at h
                    dsimp only at h
                    refine x_callV (mc := 0) (ms := 0) (pc := 31) (bL := [xI (x3)]) (K := []) C cs_D_100 (m_D_fileNamed l c11 : x_M l _ _ _ _ (.inl (some (xR 4 v12))) _ 0 0) (by decide) rfl (Nat.le_of_ble_eq_true rfl) (d_D_rename 18 rfl) ?_
                    refine x_astore (pc := 34) (L2 := [(5, xR 4 (v12)), (4, xR 4 (some (i10))), (0, xR 0 (some (x0))), (1, xI (x1)), (2, xI (x2)), (3, xI (x3))]) C (d_D_rename 19 rfl) (by decide) rfl ?_
                    refine x_aload (pc := 36) C (d_D_rename 20 rfl) 0 rfl ?_
                    refine x_ifnull (pc := 38) (tgt := 47) C (d_D_rename 21 rfl) (by decide) (fun c13 => ?_) (fun i14 c13 => ?_)
                    · rw [c13] at h; try rw [c13]
                      dsimp only at h
                      refine x_aload (pc := 47) C (d_D_rename 25 rfl) 1 rfl ?_
                      refine x_iload_n (pc := 49) C (d_D_rename 26 rfl) rfl 5 rfl ?_
                      refine x_putI (pc := 50) C fl_D_112 (pf_D_112 _) rfl ty_4_2 (d_D_rename 27 rfl) ?_
                      refine x_iconst (pc := 53) (v := 0) C (by decide) (d_D_rename 28 rfl) ?_
                      cases h
                      exact x_iret (pc := 54) C hret rfl (Nat.zero_le _) (Nat.zero_le _) (d_D_rename 29 rfl)
                    · rw [c13] at h; try rw [c13]
                      dsimp only at h
                      refine x_aload (pc := 41) C (d_D_rename 22 rfl) 0 rfl ?_
                      refine x_iconst (pc := 43) (v := 0) C (by decide) (d_D_rename 23 rfl) ?_
                      refine x_putI (pc := 44) C fl_D_112 (pf_D_112 _) rfl ty_4_2 (d_D_rename 24 rfl) ?_
                      refine x_aload (pc := 47) C (d_D_rename 25 rfl) 1 rfl ?_
                      refine x_iload_n (pc := 49) C (d_D_rename 26 rfl) rfl 5 rfl ?_
                      refine x_putI (pc := 50) C fl_D_112 (pf_D_112 _) rfl ty_4_2 (d_D_rename 27 rfl) ?_
                      refine x_iconst (pc := 53) (v := 0) C (by decide) (d_D_rename 28 rfl) ?_
                      cases h
                      exact x_iret (pc := 54) C hret rfl (Nat.zero_le _) (Nat.zero_le _) (d_D_rename 29 rfl)
                · rw [c9] at h; try rw [c9]
                  dsimp only at h
                  refine x_bipush (pc := 26) (v := (-2)) C (by decide) (d_D_rename 14 rfl) ?_
                  cases h
                  exact x_iret (pc := 28) C hret rfl (Nat.zero_le _) (Nat.zero_le _) (d_D_rename 15 rfl)
def f_D_type (x0 : Nat) (x1 : Int32) (st : XS) : Option ((Int32 ⊕ String) × XS) :=
  if x1 < 0 then
    some (.inr "java/lang/IllegalArgumentException", st)
  else
    if x1 ≤ 255 then
      match st.2.2.1 0 x0 4 with
      | none => none
      | some i3 =>
        if (st.1 5 i3 2) < 40 then
          match f_B_addLast i3 x1 st with
          | none => none
          | some (_, st8) =>
            match f_D_wakeAll x0 st8 with
            | none => none
            | some (v10, st11) =>
              some (.inl (v10), st11)
        else
          some (.inl ((-7)), st)
    else
      some (.inr "java/lang/IllegalArgumentException", st)
set_option maxRecDepth 100000 in
set_option maxHeartbeats 4000000 in
theorem m_D_type (l : Launch) (hfl : l.flags = flags0) {x0 : Nat} {x1 : Int32} {st : XS} {r : Int32 ⊕ String} {st2 : XS} (h : f_D_type x0 x1 st = some (r, st2)) : x_M l M_D_type rm_D_type [xR 0 (some (x0)), xI (x1)] st (xth (fun v => some (xI v)) r) st2 (xmc r) (xms r) := by
  refine x_enter (Nat.le_of_ble_eq_true rfl) ?_
  intro p e s m below meth c D cA g args B C
  have hret := B.2.2.2.2.2.2.2.2.1
  have hmn := B.2.2.2.2.2.2.2.1
  have hex := B.2.2.2.2.2.2.2.2.2.1
  unfold f_D_type at h
  refine x_iload_n (pc := 0) C (d_D_type 0 rfl) rfl 1 rfl ?_
  refine x_if_lt (pc := 1) (tgt := 11) C (d_D_type 1 rfl) (by decide) (fun c1 => ?_) (fun c1 => ?_)
  · rw [if_pos c1] at h
    cases h
    exact x_throw (pc := 11) (tx := "not a byte") C hfl w_449 w_450 w_12 (by decide +kernel) oa_D_155 (by decide +kernel) hex (Nat.le_of_ble_eq_true rfl) (by decide) (by decide) (Nat.le_refl 1) (Nat.le_refl 6) (by decide) (by decide) (d_D_type 5 rfl) (d_D_type 6 rfl) (d_D_type 7 rfl) (d_D_type 8 rfl) (d_D_type 9 rfl)
  · rw [if_neg c1] at h
    refine x_iload_n (pc := 4) C (d_D_type 2 rfl) rfl 1 rfl ?_
    refine x_sipush (pc := 5) (v := 255) C (by decide) (d_D_type 3 rfl) ?_
    refine x_icmp_le (pc := 8) (tgt := 21) C (d_D_type 4 rfl) (by decide) (fun c2 => ?_) (fun c2 => ?_)
    · rw [if_pos c2] at h
      refine x_aload_n (pc := 21) C (d_D_type 10 rfl) rfl 0 rfl ?_
      refine x_getR (pc := 22) (t := 5) C fl_D_36 rfl rfl (d_D_type 11 rfl) ?_
      cases c4 : st.2.2.1 0 x0 4 with
      | none => rw [c4] at h; cases h
      | some i3 =>
        rw [c4] at h
        dsimp only at h
        refine x_getI (pc := 25) C fl_D_169 rfl (d_D_type 12 rfl) ?_
        refine x_bipush (pc := 28) (v := 40) C (by decide) (d_D_type 13 rfl) ?_
        refine x_icmp_lt (pc := 30) (tgt := 36) C (d_D_type 14 rfl) (by decide) (fun c5 => ?_) (fun c5 => ?_)
        · rw [if_pos c5] at h
          refine x_aload_n (pc := 36) C (d_D_type 17 rfl) rfl 0 rfl ?_
          refine x_getR (pc := 37) (t := 5) C fl_D_36 rfl rfl (d_D_type 18 rfl) ?_
          rw [c4]
          refine x_iload_n (pc := 40) C (d_D_type 19 rfl) rfl 1 rfl ?_
          cases c6 : f_B_addLast i3 x1 st with
          | none => rw [c6] at h; cases h
          | some w13 =>
            obtain ⟨v7, st8⟩ := w13
            rw [c6] at h
            dsimp only at h
            refine x_callV (mc := 0) (ms := 0) (pc := 41) (bL := [xI (x1)]) (K := []) C cs_D_172 (m_B_addLast l c6 : x_M l _ _ _ _ (.inl none) _ 0 0) (by decide) rfl (Nat.le_of_ble_eq_true rfl) (d_D_type 20 rfl) ?_
            refine x_aload_n (pc := 44) C (d_D_type 21 rfl) rfl 0 rfl ?_
            cases c9 : f_D_wakeAll x0 st8 with
            | none => rw [c9] at h; cases h
            | some w12 =>
              obtain ⟨v10, st11⟩ := w12
              rw [c9] at h
              dsimp only at h
              refine x_callV (mc := 0) (ms := 0) (pc := 45) (bL := []) (K := []) C cs_D_90 (m_D_wakeAll l c9 : x_M l _ _ _ _ (.inl (some (xI v10))) _ 0 0) (by decide) rfl (Nat.le_of_ble_eq_true rfl) (d_D_type 22 rfl) ?_
              cases h
              exact x_iret (pc := 48) C hret rfl (Nat.zero_le _) (Nat.zero_le _) (d_D_type 23 rfl)
        · rw [if_neg c5] at h
          refine x_bipush (pc := 33) (v := (-7)) C (by decide) (d_D_type 15 rfl) ?_
          cases h
          exact x_iret (pc := 35) C hret rfl (Nat.zero_le _) (Nat.zero_le _) (d_D_type 16 rfl)
    · rw [if_neg c2] at h
      cases h
      exact x_throw (pc := 11) (tx := "not a byte") C hfl w_449 w_450 w_12 (by decide +kernel) oa_D_155 (by decide +kernel) hex (Nat.le_of_ble_eq_true rfl) (by decide) (by decide) (Nat.le_refl 1) (Nat.le_refl 6) (by decide) (by decide) (d_D_type 5 rfl) (d_D_type 6 rfl) (d_D_type 7 rfl) (d_D_type 8 rfl) (d_D_type 9 rfl)
