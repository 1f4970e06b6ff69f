/-! methods as functions, by program (wip/gen) -/
def f_M_thrown (x0 : Nat) (st : XS) : Option Int32 :=
  some (st.1 32 x0 0)
set_option maxRecDepth 100000 in
set_option maxHeartbeats 4000000 in
theorem m_M_thrown (l : Launch) {x0 : Nat} {st : XS} {r : Int32} (h : f_M_thrown x0 st = some r) : x_M l M_M_thrown rm_M_thrown [xR 32 (some (x0))] st (.inl (some (xI r))) st 0 0 := by
  refine x_enter (Nat.le_of_ble_eq_true rfl) ?_
  intro p e s m below meth c D cA g args B C
  have hret := B.2.2.2.2.2.2.2.2.1
  have hmn := B.2.2.2.2.2.2.2.1
  have hex := B.2.2.2.2.2.2.2.2.2.1
  unfold f_M_thrown at h
  refine x_aload_n (pc := 0) C (d_M_thrown 0 rfl) rfl 0 rfl ?_
  refine x_getI (pc := 1) C fl_M_66 rfl (d_M_thrown 1 rfl) ?_
  cases h
  exact x_iret (pc := 4) C hret rfl (Nat.zero_le _) (Nat.zero_le _) (d_M_thrown 2 rfl)
def f_M_freeProcess_2  : Nat → Nat → Int32 → XS → Option Int32
  | 0, _, _, _ => none
  | n + 1, x0, x1, st =>
    if 8 ≤ x1 then
      if 8 ≤ x1 then
        some ((-1))
      else
        some (x1)
    else
      match st.2.2.1 32 x0 1 with
      | none => none
      | some i3 =>
        if x_in x1 8 then
          if (st.1 33 i3 x1.toNatClampNeg) ≤ 0 then
            if 8 ≤ x1 then
              some ((-1))
            else
              some (x1)
          else
            f_M_freeProcess_2 n x0 (x1 + 1) st
        else none
set_option maxRecDepth 100000 in
set_option maxHeartbeats 4000000 in
theorem v_M_freeProcess_2 {p : Program} {l : Launch} {e : Env} {s : State} {m : MethodId} {args : Array Value} {below : List Frame} {meth : Method} {c : Code} {D : va_G} {cA : Nat → ClassId} {g0 : Nat → Nat → Nat} {n0 : Nat → Nat} {r : Int32} (C : x_C p e rm_M_freeProcess s m args meth c D cA (x_A g0 n0 s.heap.size) M_M_freeProcess.2.1 M_M_freeProcess.1 M_M_freeProcess.2.2.1) (hret : meth.sig.returnType = M_M_freeProcess.2.2.2.1) (hmn : meth.name = M_M_freeProcess.2.2.2.2.2) (hex : c.exceptionTable.toList.map (fun h => (h.startPc, h.endPc, h.handlerPc, h.catchType)) = M_M_freeProcess.2.2.2.2.1)  : ∀ (n : Nat) (x0 : Nat) (x1 : Int32) (st : XS), f_M_freeProcess_2 n x0 x1 st = some r → x_V p l e rm_M_freeProcess s m args below meth c D cA (x_A g0 n0 s.heap.size) M_M_freeProcess.2.2.1 g0 n0 (x_MQ D cA g0 n0 below s 0 0 (.inl (some (xI r))) st) 2 [(0, xR 32 (some (x0))), (1, xI (x1))] [] st 0 0 := by
  intro n
  induction n with
  | zero => intro x0 x1 st h; cases h
  | succ n ih =>
    intro x0 x1 st h
    rw [f_M_freeProcess_2.eq_def] at h
    dsimp only at h
    refine x_iload_n (pc := 2) C (d_M_freeProcess 2 rfl) rfl 1 rfl ?_
    refine x_bipush (pc := 3) (v := 8) C (by decide) (d_M_freeProcess 3 rfl) ?_
    refine x_icmp_ge (pc := 5) (tgt := 23) C (d_M_freeProcess 4 rfl) (by decide) (fun c1 => ?_) (fun c1 => ?_)
    · rw [if_pos c1] at h
      refine x_iload_n (pc := 23) C (d_M_freeProcess 12 rfl) rfl 1 rfl ?_
      refine x_bipush (pc := 24) (v := 8) C (by decide) (d_M_freeProcess 13 rfl) ?_
      refine x_icmp_ge (pc := 26) (tgt := 33) C (d_M_freeProcess 14 rfl) (by decide) (fun c2 => ?_) (fun c2 => ?_)
      · rw [if_pos c2] at h
        refine x_iconst (pc := 33) (v := (-1)) C (by decide) (d_M_freeProcess 17 rfl) ?_
        cases h
        exact x_iret (pc := 34) C hret rfl (Nat.zero_le _) (Nat.zero_le _) (d_M_freeProcess 18 rfl)
      · rw [if_neg c2] at h
        refine x_iload_n (pc := 29) C (d_M_freeProcess 15 rfl) rfl 1 rfl ?_
        refine x_goto (pc := 30) (tgt := 34) C (d_M_freeProcess 16 rfl) (by decide) ?_
        cases h
        exact x_iret (pc := 34) C hret rfl (Nat.zero_le _) (Nat.zero_le _) (d_M_freeProcess 18 rfl)
    · rw [if_neg c1] at h
      refine x_aload_n (pc := 8) C (d_M_freeProcess 5 rfl) rfl 0 rfl ?_
      refine x_getR (pc := 9) (t := 33) C fl_M_7 rfl rfl (d_M_freeProcess 6 rfl) ?_
      refine x_iload_n (pc := 12) C (d_M_freeProcess 7 rfl) rfl 1 rfl ?_
      cases c4 : st.2.2.1 32 x0 1 with
      | none => rw [c4] at h; cases h
      | some i3 =>
        rw [c4] at h
        dsimp only at h
        by_cases b5 : x_in x1 8
        · rw [if_pos b5] at h
          refine x_iald (pc := 13) C ar_33 b5 (d_M_freeProcess 8 rfl) ?_
          refine x_if_le (pc := 14) (tgt := 23) C (d_M_freeProcess 9 rfl) (by decide) (fun c6 => ?_) (fun c6 => ?_)
          · rw [if_pos c6] at h
            refine x_iload_n (pc := 23) C (d_M_freeProcess 12 rfl) rfl 1 rfl ?_
            refine x_bipush (pc := 24) (v := 8) C (by decide) (d_M_freeProcess 13 rfl) ?_
            refine x_icmp_ge (pc := 26) (tgt := 33) C (d_M_freeProcess 14 rfl) (by decide) (fun c7 => ?_) (fun c7 => ?_)
            · rw [if_pos c7] at h
              refine x_iconst (pc := 33) (v := (-1)) C (by decide) (d_M_freeProcess 17 rfl) ?_
              cases h
              exact x_iret (pc := 34) C hret rfl (Nat.zero_le _) (Nat.zero_le _) (d_M_freeProcess 18 rfl)
            · rw [if_neg c7] at h
              refine x_iload_n (pc := 29) C (d_M_freeProcess 15 rfl) rfl 1 rfl ?_
              refine x_goto (pc := 30) (tgt := 34) C (d_M_freeProcess 16 rfl) (by decide) ?_
              cases h
              exact x_iret (pc := 34) C hret rfl (Nat.zero_le _) (Nat.zero_le _) (d_M_freeProcess 18 rfl)
          · rw [if_neg c6] at h
            refine x_iinc (pc := 17) (v := x1 + 1) (L2 := [(1, xI (x1 + 1)), (0, xR 32 (some (x0)))]) C (d_M_freeProcess 10 rfl) 1 rfl rfl (by decide) rfl ?_
            refine x_goto (pc := 20) (tgt := 2) C (d_M_freeProcess 11 rfl) (by decide) ?_
            exact x_sub [1, 0] rfl (ih _ _ _ h)
        · rw [if_neg b5] at h; cases h
def f_M_freeProcess (x0 : Nat) (st : XS) : Option Int32 :=
  f_M_freeProcess_2 100 x0 0 st
set_option maxRecDepth 100000 in
set_option maxHeartbeats 4000000 in
theorem m_M_freeProcess (l : Launch) {x0 : Nat} {st : XS} {r : Int32} (h : f_M_freeProcess x0 st = some r) : x_M l M_M_freeProcess rm_M_freeProcess [xR 32 (some (x0))] st (.inl (some (xI r))) st 0 0 := by
  refine x_enter (Nat.le_of_ble_eq_true rfl) ?_
  intro p e s m below meth c D cA g args B C
  have hret := B.2.2.2.2.2.2.2.2.1
  have hmn := B.2.2.2.2.2.2.2.1
  have hex := B.2.2.2.2.2.2.2.2.2.1
  unfold f_M_freeProcess at h
  refine x_iconst (pc := 0) (v := 0) C (by decide) (d_M_freeProcess 0 rfl) ?_
  refine x_istore_n (pc := 1) (L2 := [(1, xI (0)), (0, xR 32 (some (x0)))]) C (d_M_freeProcess 1 rfl) rfl (by decide) rfl ?_
  exact x_sub [1, 0] rfl (v_M_freeProcess_2 C hret hmn hex 100 _ _ _ h)
def f_M_freeOpening_2  : Nat → Nat → Int32 → XS → Option Int32
  | 0, _, _, _ => none
  | n + 1, x0, x1, st =>
    if 20 ≤ x1 then
      if 20 ≤ x1 then
        some ((-1))
      else
        some (x1)
    else
      match st.2.2.1 32 x0 6 with
      | none => none
      | some i3 =>
        if x_in x1 20 then
          if (st.1 38 i3 x1.toNatClampNeg) ≤ 0 then
            if 20 ≤ x1 then
              some ((-1))
            else
              some (x1)
          else
            f_M_freeOpening_2 n x0 (x1 + 1) st
        else none
set_option maxRecDepth 100000 in
set_option maxHeartbeats 4000000 in
theorem v_M_freeOpening_2 {p : Program} {l : Launch} {e : Env} {s : State} {m : MethodId} {args : Array Value} {below : List Frame} {meth : Method} {c : Code} {D : va_G} {cA : Nat → ClassId} {g0 : Nat → Nat → Nat} {n0 : Nat → Nat} {r : Int32} (C : x_C p e rm_M_freeOpening s m args meth c D cA (x_A g0 n0 s.heap.size) M_M_freeOpening.2.1 M_M_freeOpening.1 M_M_freeOpening.2.2.1) (hret : meth.sig.returnType = M_M_freeOpening.2.2.2.1) (hmn : meth.name = M_M_freeOpening.2.2.2.2.2) (hex : c.exceptionTable.toList.map (fun h => (h.startPc, h.endPc, h.handlerPc, h.catchType)) = M_M_freeOpening.2.2.2.2.1)  : ∀ (n : Nat) (x0 : Nat) (x1 : Int32) (st : XS), f_M_freeOpening_2 n x0 x1 st = some r → x_V p l e rm_M_freeOpening s m args below meth c D cA (x_A g0 n0 s.heap.size) M_M_freeOpening.2.2.1 g0 n0 (x_MQ D cA g0 n0 below s 0 0 (.inl (some (xI r))) st) 2 [(0, xR 32 (some (x0))), (1, xI (x1))] [] st 0 0 := by
  intro n
  induction n with
  | zero => intro x0 x1 st h; cases h
  | succ n ih =>
    intro x0 x1 st h
    rw [f_M_freeOpening_2.eq_def] at h
    dsimp only at h
    refine x_iload_n (pc := 2) C (d_M_freeOpening 2 rfl) rfl 1 rfl ?_
    refine x_bipush (pc := 3) (v := 20) C (by decide) (d_M_freeOpening 3 rfl) ?_
    refine x_icmp_ge (pc := 5) (tgt := 23) C (d_M_freeOpening 4 rfl) (by decide) (fun c1 => ?_) (fun c1 => ?_)
    · rw [if_pos c1] at h
      refine x_iload_n (pc := 23) C (d_M_freeOpening 12 rfl) rfl 1 rfl ?_
      refine x_bipush (pc := 24) (v := 20) C (by decide) (d_M_freeOpening 13 rfl) ?_
      refine x_icmp_ge (pc := 26) (tgt := 33) C (d_M_freeOpening 14 rfl) (by decide) (fun c2 => ?_) (fun c2 => ?_)
      · rw [if_pos c2] at h
        refine x_iconst (pc := 33) (v := (-1)) C (by decide) (d_M_freeOpening 17 rfl) ?_
        cases h
        exact x_iret (pc := 34) C hret rfl (Nat.zero_le _) (Nat.zero_le _) (d_M_freeOpening 18 rfl)
      · rw [if_neg c2] at h
        refine x_iload_n (pc := 29) C (d_M_freeOpening 15 rfl) rfl 1 rfl ?_
        refine x_goto (pc := 30) (tgt := 34) C (d_M_freeOpening 16 rfl) (by decide) ?_
        cases h
        exact x_iret (pc := 34) C hret rfl (Nat.zero_le _) (Nat.zero_le _) (d_M_freeOpening 18 rfl)
    · rw [if_neg c1] at h
      refine x_aload_n (pc := 8) C (d_M_freeOpening 5 rfl) rfl 0 rfl ?_
      refine x_getR (pc := 9) (t := 38) C fl_M_26 rfl rfl (d_M_freeOpening 6 rfl) ?_
      refine x_iload_n (pc := 12) C (d_M_freeOpening 7 rfl) rfl 1 rfl ?_
      cases c4 : st.2.2.1 32 x0 6 with
      | none => rw [c4] at h; cases h
      | some i3 =>
        rw [c4] at h
        dsimp only at h
        by_cases b5 : x_in x1 20
        · rw [if_pos b5] at h
          refine x_iald (pc := 13) C ar_38 b5 (d_M_freeOpening 8 rfl) ?_
          refine x_if_le (pc := 14) (tgt := 23) C (d_M_freeOpening 9 rfl) (by decide) (fun c6 => ?_) (fun c6 => ?_)
          · rw [if_pos c6] at h
            refine x_iload_n (pc := 23) C (d_M_freeOpening 12 rfl) rfl 1 rfl ?_
            refine x_bipush (pc := 24) (v := 20) C (by decide) (d_M_freeOpening 13 rfl) ?_
            refine x_icmp_ge (pc := 26) (tgt := 33) C (d_M_freeOpening 14 rfl) (by decide) (fun c7 => ?_) (fun c7 => ?_)
            · rw [if_pos c7] at h
              refine x_iconst (pc := 33) (v := (-1)) C (by decide) (d_M_freeOpening 17 rfl) ?_
              cases h
              exact x_iret (pc := 34) C hret rfl (Nat.zero_le _) (Nat.zero_le _) (d_M_freeOpening 18 rfl)
            · rw [if_neg c7] at h
              refine x_iload_n (pc := 29) C (d_M_freeOpening 15 rfl) rfl 1 rfl ?_
              refine x_goto (pc := 30) (tgt := 34) C (d_M_freeOpening 16 rfl) (by decide) ?_
              cases h
              exact x_iret (pc := 34) C hret rfl (Nat.zero_le _) (Nat.zero_le _) (d_M_freeOpening 18 rfl)
          · rw [if_neg c6] at h
            refine x_iinc (pc := 17) (v := x1 + 1) (L2 := [(1, xI (x1 + 1)), (0, xR 32 (some (x0)))]) C (d_M_freeOpening 10 rfl) 1 rfl rfl (by decide) rfl ?_
            refine x_goto (pc := 20) (tgt := 2) C (d_M_freeOpening 11 rfl) (by decide) ?_
            exact x_sub [1, 0] rfl (ih _ _ _ h)
        · rw [if_neg b5] at h; cases h
def f_M_freeOpening (x0 : Nat) (st : XS) : Option Int32 :=
  f_M_freeOpening_2 100 x0 0 st
set_option maxRecDepth 100000 in
set_option maxHeartbeats 4000000 in
theorem m_M_freeOpening (l : Launch) {x0 : Nat} {st : XS} {r : Int32} (h : f_M_freeOpening x0 st = some r) : x_M l M_M_freeOpening rm_M_freeOpening [xR 32 (some (x0))] st (.inl (some (xI r))) st 0 0 := by
  refine x_enter (Nat.le_of_ble_eq_true rfl) ?_
  intro p e s m below meth c D cA g args B C
  have hret := B.2.2.2.2.2.2.2.2.1
  have hmn := B.2.2.2.2.2.2.2.1
  have hex := B.2.2.2.2.2.2.2.2.2.1
  unfold f_M_freeOpening at h
  refine x_iconst (pc := 0) (v := 0) C (by decide) (d_M_freeOpening 0 rfl) ?_
  refine x_istore_n (pc := 1) (L2 := [(1, xI (0)), (0, xR 32 (some (x0)))]) C (d_M_freeOpening 1 rfl) rfl (by decide) rfl ?_
  exact x_sub [1, 0] rfl (v_M_freeOpening_2 C hret hmn hex 100 _ _ _ h)
def f_M_begin (x0 : Nat) (x1 : Int32) (st : XS) : Option (Unit × XS) :=
  match st.2.2.1 32 x0 1 with
  | none => none
  | some i1 =>
    if x_in x1 8 then
      match (xsI st 33 i1 x1.toNatClampNeg 1).2.2.1 32 x0 2 with
      | none => none
      | some i4 =>
        if x_in x1 8 then
          match (xsI (xsI st 33 i1 x1.toNatClampNeg 1) 34 i4 x1.toNatClampNeg ((-1))).2.2.1 32 x0 3 with
          | none => none
          | some i7 =>
            if x_in x1 8 then
              match (xsI (xsI (xsI st 33 i1 x1.toNatClampNeg 1) 34 i4 x1.toNatClampNeg ((-1))) 35 i7 x1.toNatClampNeg 0).2.2.1 32 x0 5 with
              | none => none
              | some i10 =>
                if x_in x1 8 then
                  some ((), xsJ (xsI (xsI (xsI st 33 i1 x1.toNatClampNeg 1) 34 i4 x1.toNatClampNeg ((-1))) 35 i7 x1.toNatClampNeg 0) 37 i10 x1.toNatClampNeg 0)
                else none
            else none
        else none
    else none
set_option maxRecDepth 100000 in
set_option maxHeartbeats 4000000 in
theorem m_M_begin (l : Launch) {x0 : Nat} {x1 : Int32} {st : XS} {r : Unit} {st2 : XS} (h : f_M_begin x0 x1 st = some (r, st2)) : x_M l M_M_begin rm_M_begin [xR 32 (some (x0)), xI (x1)] st (.inl (none)) st2 0 0 := by
  refine x_enter (Nat.le_of_ble_eq_true rfl) ?_
  intro p e s m below meth c D cA g args B C
  have hret := B.2.2.2.2.2.2.2.2.1
  have hmn := B.2.2.2.2.2.2.2.1
  have hex := B.2.2.2.2.2.2.2.2.2.1
  unfold f_M_begin at h
  refine x_aload_n (pc := 0) C (d_M_begin 0 rfl) rfl 0 rfl ?_
  refine x_getR (pc := 1) (t := 33) C fl_M_7 rfl rfl (d_M_begin 1 rfl) ?_
  refine x_iload_n (pc := 4) C (d_M_begin 2 rfl) rfl 1 rfl ?_
  refine x_iconst (pc := 5) (v := 1) C (by decide) (d_M_begin 3 rfl) ?_
  cases c2 : st.2.2.1 32 x0 1 with
  | none => rw [c2] at h; cases h
  | some i1 =>
    rw [c2] at h
    dsimp only at h
    by_cases b3 : x_in x1 8
    · rw [if_pos b3] at h
      refine x_iast (pc := 6) C ar_33 b3 (d_M_begin 4 rfl) ?_
      refine x_aload_n (pc := 7) C (d_M_begin 5 rfl) rfl 0 rfl ?_
      refine x_getR (pc := 8) (t := 34) C fl_M_13 rfl rfl (d_M_begin 6 rfl) ?_
      refine x_iload_n (pc := 11) C (d_M_begin 7 rfl) rfl 1 rfl ?_
      refine x_iconst (pc := 12) (v := (-1)) C (by decide) (d_M_begin 8 rfl) ?_
      cases c5 : (xsI st 33 i1 x1.toNatClampNeg 1).2.2.1 32 x0 2 with
      | none => rw [c5] at h; cases h
      | some i4 =>
        rw [c5] at h
        dsimp only at h
        by_cases b6 : x_in x1 8
        · rw [if_pos b6] at h
          refine x_iast (pc := 13) C ar_34 b6 (d_M_begin 9 rfl) ?_
          refine x_aload_n (pc := 14) C (d_M_begin 10 rfl) rfl 0 rfl ?_
          refine x_getR (pc := 15) (t := 35) C fl_M_16 rfl rfl (d_M_begin 11 rfl) ?_
          refine x_iload_n (pc := 18) C (d_M_begin 12 rfl) rfl 1 rfl ?_
          refine x_iconst (pc := 19) (v := 0) C (by decide) (d_M_begin 13 rfl) ?_
          cases c8 : (xsI (xsI st 33 i1 x1.toNatClampNeg 1) 34 i4 x1.toNatClampNeg ((-1))).2.2.1 32 x0 3 with
          | none => rw [c8] at h; cases h
          | some i7 =>
            rw [c8] at h
            dsimp only at h
            by_cases b9 : x_in x1 8
            · rw [if_pos b9] at h
              refine x_iast (pc := 20) C ar_35 b9 (d_M_begin 14 rfl) ?_
              refine x_aload_n (pc := 21) C (d_M_begin 15 rfl) rfl 0 rfl ?_
              refine x_getR (pc := 22) (t := 37) C fl_M_22 rfl rfl (d_M_begin 16 rfl) ?_
              refine x_iload_n (pc := 25) C (d_M_begin 17 rfl) rfl 1 rfl ?_
              refine x_lconst (pc := 26) (v := 0) C (by decide) (d_M_begin 18 rfl) ?_
              cases c11 : (xsI (xsI (xsI st 33 i1 x1.toNatClampNeg 1) 34 i4 x1.toNatClampNeg ((-1))) 35 i7 x1.toNatClampNeg 0).2.2.1 32 x0 5 with
              | none => rw [c11] at h; cases h
              | some i10 =>
                rw [c11] at h
                dsimp only at h
                by_cases b12 : x_in x1 8
                · rw [if_pos b12] at h
                  refine x_last (pc := 27) C ar_37 b12 (d_M_begin 19 rfl) ?_
                  cases h
                  exact x_vret (pc := 28) C hret (Nat.zero_le _) (Nat.zero_le _) (d_M_begin 20 rfl)
                · rw [if_neg b12] at h; cases h
            · rw [if_neg b9] at h; cases h
        · rw [if_neg b6] at h; cases h
    · rw [if_neg b3] at h; cases h
def f_M_newOpening (x0 : Nat) (x1 : Int32) (x2 : Int32) (x3 : Int32) (st : XS) : Option (Int32 × XS) :=
  match f_M_freeOpening x0 st with
  | none => none
  | some v2 =>
    match st.2.2.1 32 x0 6 with
    | none => none
    | some i3 =>
      if x_in v2 20 then
        match (xsI st 38 i3 v2.toNatClampNeg x1).2.2.1 32 x0 7 with
        | none => none
        | some i6 =>
          if x_in v2 20 then
            match (xsI (xsI st 38 i3 v2.toNatClampNeg x1) 39 i6 v2.toNatClampNeg x2).2.2.1 32 x0 8 with
            | none => none
            | some i9 =>
              if x_in v2 20 then
                match (xsI (xsI (xsI st 38 i3 v2.toNatClampNeg x1) 39 i6 v2.toNatClampNeg x2) 40 i9 v2.toNatClampNeg 0).2.2.1 32 x0 9 with
                | none => none
                | some i12 =>
                  if x_in v2 20 then
                    some (v2, xsI (xsI (xsI (xsI st 38 i3 v2.toNatClampNeg x1) 39 i6 v2.toNatClampNeg x2) 40 i9 v2.toNatClampNeg 0) 41 i12 v2.toNatClampNeg x3)
                  else none
              else none
          else none
      else none
set_option maxRecDepth 100000 in
set_option maxHeartbeats 4000000 in
theorem m_M_newOpening (l : Launch) {x0 : Nat} {x1 : Int32} {x2 : Int32} {x3 : Int32} {st : XS} {r : Int32} {st2 : XS} (h : f_M_newOpening x0 x1 x2 x3 st = some (r, st2)) : x_M l M_M_newOpening rm_M_newOpening [xR 32 (some (x0)), xI (x1), xI (x2), xI (x3)] st (.inl (some (xI r))) st2 0 0 := by
  refine x_enter (Nat.le_of_ble_eq_true rfl) ?_
  intro p e s m below meth c D cA g args B C
  have hret := B.2.2.2.2.2.2.2.2.1
  have hmn := B.2.2.2.2.2.2.2.1
  have hex := B.2.2.2.2.2.2.2.2.2.1
  unfold f_M_newOpening at h
  refine x_aload_n (pc := 0) C (d_M_newOpening 0 rfl) rfl 0 rfl ?_
  cases c1 : f_M_freeOpening x0 st with
  | none => rw [c1] at h; cases h
  | some v2 =>
    rw [c1] at h
    dsimp only at h
    refine x_callV (mc := 0) (ms := 0) (pc := 1) (bL := []) (K := []) C cs_M_82 (m_M_freeOpening l c1 : x_M l _ _ _ _ (.inl (some (xI v2))) _ 0 0) (by decide) rfl (Nat.le_of_ble_eq_true rfl) (d_M_newOpening 1 rfl) ?_
    refine x_istore (pc := 4) (L2 := [(4, xI (v2)), (0, xR 32 (some (x0))), (1, xI (x1)), (2, xI (x2)), (3, xI (x3))]) C (d_M_newOpening 2 rfl) (by decide) rfl ?_
    refine x_aload_n (pc := 6) C (d_M_newOpening 3 rfl) rfl 1 rfl ?_
    refine x_getR (pc := 7) (t := 38) C fl_M_26 rfl rfl (d_M_newOpening 4 rfl) ?_
    refine x_iload (pc := 10) C (d_M_newOpening 5 rfl) 0 rfl ?_
    refine x_iload_n (pc := 12) C (d_M_newOpening 6 rfl) rfl 2 rfl ?_
    cases c4 : st.2.2.1 32 x0 6 with
    | none => rw [c4] at h; cases h
    | some i3 =>
      rw [c4] at h
      dsimp only at h
      by_cases b5 : x_in v2 20
      · rw [if_pos b5] at h
        refine x_iast (pc := 13) C ar_38 b5 (d_M_newOpening 7 rfl) ?_
        refine x_aload_n (pc := 14) C (d_M_newOpening 8 rfl) rfl 1 rfl ?_
        refine x_getR (pc := 15) (t := 39) C fl_M_29 rfl rfl (d_M_newOpening 9 rfl) ?_
        refine x_iload (pc := 18) C (d_M_newOpening 10 rfl) 0 rfl ?_
        refine x_iload_n (pc := 20) C (d_M_newOpening 11 rfl) rfl 3 rfl ?_
        cases c7 : (xsI st 38 i3 v2.toNatClampNeg x1).2.2.1 32 x0 7 with
        | none => rw [c7] at h; cases h
        | some i6 =>
          rw [c7] at h
          dsimp only at h
          by_cases b8 : x_in v2 20
          · rw [if_pos b8] at h
            refine x_iast (pc := 21) C ar_39 b8 (d_M_newOpening 12 rfl) ?_
            refine x_aload_n (pc := 22) C (d_M_newOpening 13 rfl) rfl 1 rfl ?_
            refine x_getR (pc := 23) (t := 40) C fl_M_32 rfl rfl (d_M_newOpening 14 rfl) ?_
            refine x_iload (pc := 26) C (d_M_newOpening 15 rfl) 0 rfl ?_
            refine x_iconst (pc := 28) (v := 0) C (by decide) (d_M_newOpening 16 rfl) ?_
            cases c10 : (xsI (xsI st 38 i3 v2.toNatClampNeg x1) 39 i6 v2.toNatClampNeg x2).2.2.1 32 x0 8 with
            | none => rw [c10] at h; cases h
            | some i9 =>
              rw [c10] at h
              dsimp only at h
              by_cases b11 : x_in v2 20
              · rw [if_pos b11] at h
                refine x_iast (pc := 29) C ar_40 b11 (d_M_newOpening 17 rfl) ?_
                refine x_aload_n (pc := 30) C (d_M_newOpening 18 rfl) rfl 1 rfl ?_
                refine x_getR (pc := 31) (t := 41) C fl_M_35 rfl rfl (d_M_newOpening 19 rfl) ?_
                refine x_iload (pc := 34) C (d_M_newOpening 20 rfl) 0 rfl ?_
                refine x_iload_n (pc := 36) C (d_M_newOpening 21 rfl) rfl 4 rfl ?_
                cases c13 : (xsI (xsI (xsI st 38 i3 v2.toNatClampNeg x1) 39 i6 v2.toNatClampNeg x2) 40 i9 v2.toNatClampNeg 0).2.2.1 32 x0 9 with
                | none => rw [c13] at h; cases h
                | some i12 =>
                  rw [c13] at h
                  dsimp only at h
                  by_cases b14 : x_in v2 20
                  · rw [if_pos b14] at h
                    refine x_iast (pc := 37) C ar_41 b14 (d_M_newOpening 22 rfl) ?_
                    refine x_iload (pc := 38) C (d_M_newOpening 23 rfl) 0 rfl ?_
                    cases h
                    exact x_iret (pc := 40) C hret rfl (Nat.zero_le _) (Nat.zero_le _) (d_M_newOpening 24 rfl)
                  · rw [if_neg b14] at h; cases h
              · rw [if_neg b11] at h; cases h
          · rw [if_neg b8] at h; cases h
      · rw [if_neg b5] at h; cases h
def f_M_freeDescriptor_2  : Nat → Nat → Int32 → Int32 → XS → Option Int32
  | 0, _, _, _, _ => none
  | n + 1, x0, x1, x2, st =>
    if 8 ≤ x2 then
      if 8 ≤ x2 then
        some ((-1))
      else
        some (x2)
    else
      match st.2.2.1 32 x0 4 with
      | none => none
      | some i3 =>
        if x_in (((8 : Int32) * x1) + x2) 64 then
          if (st.1 36 i3 (((8 : Int32) * x1) + x2).toNatClampNeg) = ((-1)) then
            if 8 ≤ x2 then
              some ((-1))
            else
              some (x2)
          else
            f_M_freeDescriptor_2 n x0 x1 (x2 + 1) st
        else none
set_option maxRecDepth 100000 in
set_option maxHeartbeats 4000000 in
theorem v_M_freeDescriptor_2 {p : Program} {l : Launch} {e : Env} {s : State} {m : MethodId} {args : Array Value} {below : List Frame} {meth : Method} {c : Code} {D : va_G} {cA : Nat → ClassId} {g0 : Nat → Nat → Nat} {n0 : Nat → Nat} {r : Int32} (C : x_C p e rm_M_freeDescriptor s m args meth c D cA (x_A g0 n0 s.heap.size) M_M_freeDescriptor.2.1 M_M_freeDescriptor.1 M_M_freeDescriptor.2.2.1) (hret : meth.sig.returnType = M_M_freeDescriptor.2.2.2.1) (hmn : meth.name = M_M_freeDescriptor.2.2.2.2.2) (hex : c.exceptionTable.toList.map (fun h => (h.startPc, h.endPc, h.handlerPc, h.catchType)) = M_M_freeDescriptor.2.2.2.2.1)  : ∀ (n : Nat) (x0 : Nat) (x1 : Int32) (x2 : Int32) (st : XS), f_M_freeDescriptor_2 n x0 x1 x2 st = some r → x_V p l e rm_M_freeDescriptor s m args below meth c D cA (x_A g0 n0 s.heap.size) M_M_freeDescriptor.2.2.1 g0 n0 (x_MQ D cA g0 n0 below s 0 0 (.inl (some (xI r))) st) 2 [(0, xR 32 (some (x0))), (1, xI (x1)), (2, xI (x2))] [] st 0 0 := by
  intro n
  induction n with
  | zero => intro x0 x1 x2 st h; cases h
  | succ n ih =>
    intro x0 x1 x2 st h
    rw [f_M_freeDescriptor_2.eq_def] at h
    dsimp only at h
    refine x_iload_n (pc := 2) C (d_M_freeDescriptor 2 rfl) rfl 2 rfl ?_
    refine x_bipush (pc := 3) (v := 8) C (by decide) (d_M_freeDescriptor 3 rfl) ?_
    refine x_icmp_ge (pc := 5) (tgt := 29) C (d_M_freeDescriptor 4 rfl) (by decide) (fun c1 => ?_) (fun c1 => ?_)
    · rw [if_pos c1] at h
      refine x_iload_n (pc := 29) C (d_M_freeDescriptor 17 rfl) rfl 2 rfl ?_
      refine x_bipush (pc := 30) (v := 8) C (by decide) (d_M_freeDescriptor 18 rfl) ?_
      refine x_icmp_ge (pc := 32) (tgt := 39) C (d_M_freeDescriptor 19 rfl) (by decide) (fun c2 => ?_) (fun c2 => ?_)
      · rw [if_pos c2] at h
        refine x_iconst (pc := 39) (v := (-1)) C (by decide) (d_M_freeDescriptor 22 rfl) ?_
        cases h
        exact x_iret (pc := 40) C hret rfl (Nat.zero_le _) (Nat.zero_le _) (d_M_freeDescriptor 23 rfl)
      · rw [if_neg c2] at h
        refine x_iload_n (pc := 35) C (d_M_freeDescriptor 20 rfl) rfl 2 rfl ?_
        refine x_goto (pc := 36) (tgt := 40) C (d_M_freeDescriptor 21 rfl) (by decide) ?_
        cases h
        exact x_iret (pc := 40) C hret rfl (Nat.zero_le _) (Nat.zero_le _) (d_M_freeDescriptor 23 rfl)
    · rw [if_neg c1] at h
      refine x_aload_n (pc := 8) C (d_M_freeDescriptor 5 rfl) rfl 0 rfl ?_
      refine x_getR (pc := 9) (t := 36) C fl_M_19 rfl rfl (d_M_freeDescriptor 6 rfl) ?_
      refine x_bipush (pc := 12) (v := 8) C (by decide) (d_M_freeDescriptor 7 rfl) ?_
      refine x_iload_n (pc := 14) C (d_M_freeDescriptor 8 rfl) rfl 1 rfl ?_
      refine x_imul (pc := 15) C (d_M_freeDescriptor 9 rfl) ?_
      refine x_iload_n (pc := 16) C (d_M_freeDescriptor 10 rfl) rfl 2 rfl ?_
      refine x_iadd (pc := 17) C (d_M_freeDescriptor 11 rfl) ?_
      cases c4 : st.2.2.1 32 x0 4 with
      | none => rw [c4] at h; cases h
      | some i3 =>
        rw [c4] at h
        dsimp only at h
        by_cases b5 : x_in (((8 : Int32) * x1) + x2) 64
        · rw [if_pos b5] at h
          refine x_iald (pc := 18) C ar_36 b5 (d_M_freeDescriptor 12 rfl) ?_
          refine x_iconst (pc := 19) (v := (-1)) C (by decide) (d_M_freeDescriptor 13 rfl) ?_
          refine x_icmp_eq (pc := 20) (tgt := 29) C (d_M_freeDescriptor 14 rfl) (by decide) (fun c6 => ?_) (fun c6 => ?_)
          · rw [if_pos c6] at h
            refine x_iload_n (pc := 29) C (d_M_freeDescriptor 17 rfl) rfl 2 rfl ?_
            refine x_bipush (pc := 30) (v := 8) C (by decide) (d_M_freeDescriptor 18 rfl) ?_
            refine x_icmp_ge (pc := 32) (tgt := 39) C (d_M_freeDescriptor 19 rfl) (by decide) (fun c7 => ?_) (fun c7 => ?_)
            · rw [if_pos c7] at h
              refine x_iconst (pc := 39) (v := (-1)) C (by decide) (d_M_freeDescriptor 22 rfl) ?_
              cases h
              exact x_iret (pc := 40) C hret rfl (Nat.zero_le _) (Nat.zero_le _) (d_M_freeDescriptor 23 rfl)
            · rw [if_neg c7] at h
              refine x_iload_n (pc := 35) C (d_M_freeDescriptor 20 rfl) rfl 2 rfl ?_
              refine x_goto (pc := 36) (tgt := 40) C (d_M_freeDescriptor 21 rfl) (by decide) ?_
              cases h
              exact x_iret (pc := 40) C hret rfl (Nat.zero_le _) (Nat.zero_le _) (d_M_freeDescriptor 23 rfl)
          · rw [if_neg c6] at h
            refine x_iinc (pc := 23) (v := x2 + 1) (L2 := [(2, xI (x2 + 1)), (0, xR 32 (some (x0))), (1, xI (x1))]) C (d_M_freeDescriptor 15 rfl) 2 rfl rfl (by decide) rfl ?_
            refine x_goto (pc := 26) (tgt := 2) C (d_M_freeDescriptor 16 rfl) (by decide) ?_
            exact x_sub [1, 2, 0] rfl (ih _ _ _ _ h)
        · rw [if_neg b5] at h; cases h
def f_M_freeDescriptor (x0 : Nat) (x1 : Int32) (st : XS) : Option Int32 :=
  f_M_freeDescriptor_2 100 x0 x1 0 st
set_option maxRecDepth 100000 in
set_option maxHeartbeats 4000000 in
theorem m_M_freeDescriptor (l : Launch) {x0 : Nat} {x1 : Int32} {st : XS} {r : Int32} (h : f_M_freeDescriptor x0 x1 st = some r) : x_M l M_M_freeDescriptor rm_M_freeDescriptor [xR 32 (some (x0)), xI (x1)] st (.inl (some (xI r))) st 0 0 := by
  refine x_enter (Nat.le_of_ble_eq_true rfl) ?_
  intro p e s m below meth c D cA g args B C
  have hret := B.2.2.2.2.2.2.2.2.1
  have hmn := B.2.2.2.2.2.2.2.1
  have hex := B.2.2.2.2.2.2.2.2.2.1
  unfold f_M_freeDescriptor at h
  refine x_iconst (pc := 0) (v := 0) C (by decide) (d_M_freeDescriptor 0 rfl) ?_
  refine x_istore_n (pc := 1) (L2 := [(2, xI (0)), (0, xR 32 (some (x0))), (1, xI (x1))]) C (d_M_freeDescriptor 1 rfl) rfl (by decide) rfl ?_
  exact x_sub [1, 2, 0] rfl (v_M_freeDescriptor_2 C hret hmn hex 100 _ _ _ _ h)
def f_M_give (x0 : Nat) (x1 : Int32) (x2 : Int32) (st : XS) : Option (Int32 × XS) :=
  match f_M_freeDescriptor x0 x1 st with
  | none => none
  | some v2 =>
    match st.2.2.1 32 x0 4 with
    | none => none
    | some i3 =>
      if x_in (((8 : Int32) * x1) + v2) 64 then
        some (v2, xsI st 36 i3 (((8 : Int32) * x1) + v2).toNatClampNeg x2)
      else none
set_option maxRecDepth 100000 in
set_option maxHeartbeats 4000000 in
theorem m_M_give (l : Launch) {x0 : Nat} {x1 : Int32} {x2 : Int32} {st : XS} {r : Int32} {st2 : XS} (h : f_M_give x0 x1 x2 st = some (r, st2)) : x_M l M_M_give rm_M_give [xR 32 (some (x0)), xI (x1), xI (x2)] st (.inl (some (xI r))) st2 0 0 := by
  refine x_enter (Nat.le_of_ble_eq_true rfl) ?_
  intro p e s m below meth c D cA g args B C
  have hret := B.2.2.2.2.2.2.2.2.1
  have hmn := B.2.2.2.2.2.2.2.1
  have hex := B.2.2.2.2.2.2.2.2.2.1
  unfold f_M_give at h
  refine x_aload_n (pc := 0) C (d_M_give 0 rfl) rfl 0 rfl ?_
  refine x_iload_n (pc := 1) C (d_M_give 1 rfl) rfl 1 rfl ?_
  cases c1 : f_M_freeDescriptor x0 x1 st with
  | none => rw [c1] at h; cases h
  | some v2 =>
    rw [c1] at h
    dsimp only at h
    refine x_callV (mc := 0) (ms := 0) (pc := 2) (bL := [xI (x1)]) (K := []) C cs_M_86 (m_M_freeDescriptor l c1 : x_M l _ _ _ _ (.inl (some (xI v2))) _ 0 0) (by decide) rfl (Nat.le_of_ble_eq_true rfl) (d_M_give 2 rfl) ?_
    refine x_istore_n (pc := 5) (L2 := [(3, xI (v2)), (0, xR 32 (some (x0))), (1, xI (x1)), (2, xI (x2))]) C (d_M_give 3 rfl) rfl (by decide) rfl ?_
    refine x_aload_n (pc := 6) C (d_M_give 4 rfl) rfl 1 rfl ?_
    refine x_getR (pc := 7) (t := 36) C fl_M_19 rfl rfl (d_M_give 5 rfl) ?_
    refine x_bipush (pc := 10) (v := 8) C (by decide) (d_M_give 6 rfl) ?_
    refine x_iload_n (pc := 12) C (d_M_give 7 rfl) rfl 2 rfl ?_
    refine x_imul (pc := 13) C (d_M_give 8 rfl) ?_
    refine x_iload_n (pc := 14) C (d_M_give 9 rfl) rfl 0 rfl ?_
    refine x_iadd (pc := 15) C (d_M_give 10 rfl) ?_
    refine x_iload_n (pc := 16) C (d_M_give 11 rfl) rfl 3 rfl ?_
    cases c4 : st.2.2.1 32 x0 4 with
    | none => rw [c4] at h; cases h
    | some i3 =>
      rw [c4] at h
      dsimp only at h
      by_cases b5 : x_in (((8 : Int32) * x1) + v2) 64
      · rw [if_pos b5] at h
        refine x_iast (pc := 17) C ar_36 b5 (d_M_give 12 rfl) ?_
        refine x_iload_n (pc := 18) C (d_M_give 13 rfl) rfl 0 rfl ?_
        cases h
        exact x_iret (pc := 19) C hret rfl (Nat.zero_le _) (Nat.zero_le _) (d_M_give 14 rfl)
      · rw [if_neg b5] at h; cases h
def f_M_spawn (x0 : Nat) (st : XS) : Option (Int32 × XS) :=
  match f_M_freeProcess x0 (xsI st 32 x0 0 0) with
  | none => none
  | some v2 =>
    if v2 < 0 then
      some ((-4), xsI st 32 x0 0 0)
    else
      match f_M_freeOpening x0 (xsI st 32 x0 0 0) with
      | none => none
      | some v5 =>
        if 0 ≤ v5 then
          match f_M_begin x0 v2 (xsI st 32 x0 0 0) with
          | none => none
          | some (_, st9) =>
            match f_M_newOpening x0 4 0 3 st9 with
            | none => none
            | some (v11, st12) =>
              match f_M_give x0 v2 v11 st12 with
              | none => none
              | some (v14, st15) =>
                match f_M_give x0 v2 v11 st15 with
                | none => none
                | some (v17, st18) =>
                  some (v2, st18)
        else
          some ((-4), xsI st 32 x0 0 0)
set_option maxRecDepth 100000 in
set_option maxHeartbeats 4000000 in
theorem m_M_spawn (l : Launch) {x0 : Nat} {st : XS} {r : Int32} {st2 : XS} (h : f_M_spawn x0 st = some (r, st2)) : x_M l M_M_spawn rm_M_spawn [xR 32 (some (x0))] st (.inl (some (xI r))) st2 0 0 := by
  refine x_enter (Nat.le_of_ble_eq_true rfl) ?_
  intro p e s m below meth c D cA g args B C
  have hret := B.2.2.2.2.2.2.2.2.1
  have hmn := B.2.2.2.2.2.2.2.1
  have hex := B.2.2.2.2.2.2.2.2.2.1
  unfold f_M_spawn at h
  refine x_aload_n (pc := 0) C (d_M_spawn 0 rfl) rfl 0 rfl ?_
  refine x_iconst (pc := 1) (v := 0) C (by decide) (d_M_spawn 1 rfl) ?_
  refine x_putI (pc := 2) C fl_M_66 (pf_M_66 _) rfl ty_32_0 (d_M_spawn 2 rfl) ?_
  refine x_aload_n (pc := 5) C (d_M_spawn 3 rfl) rfl 0 rfl ?_
  cases c1 : f_M_freeProcess x0 (xsI st 32 x0 0 0) with
  | none => rw [c1] at h; cases h
  | some v2 =>
    rw [c1] at h
    dsimp only at h
    refine x_callV (mc := 0) (ms := 0) (pc := 6) (bL := []) (K := []) C cs_M_89 (m_M_freeProcess l c1 : x_M l _ _ _ _ (.inl (some (xI v2))) _ 0 0) (by decide) rfl (Nat.le_of_ble_eq_true rfl) (d_M_spawn 4 rfl) ?_
    refine x_istore_n (pc := 9) (L2 := [(1, xI (v2)), (0, xR 32 (some (x0)))]) C (d_M_spawn 5 rfl) rfl (by decide) rfl ?_
    refine x_iload_n (pc := 10) C (d_M_spawn 6 rfl) rfl 0 rfl ?_
    refine x_if_lt (pc := 11) (tgt := 21) C (d_M_spawn 7 rfl) (by decide) (fun c3 => ?_) (fun c3 => ?_)
    · rw [if_pos c3] at h
      refine x_bipush (pc := 21) (v := (-4)) C (by decide) (d_M_spawn 11 rfl) ?_
      cases h
      exact x_iret (pc := 23) C hret rfl (Nat.zero_le _) (Nat.zero_le _) (d_M_spawn 12 rfl)
    · rw [if_neg c3] at h
      refine x_aload_n (pc := 14) C (d_M_spawn 8 rfl) rfl 1 rfl ?_
      cases c4 : f_M_freeOpening x0 (xsI st 32 x0 0 0) with
      | none => rw [c4] at h; cases h
      | some v5 =>
        rw [c4] at h
        dsimp only at h
        refine x_callV (mc := 0) (ms := 0) (pc := 15) (bL := []) (K := []) C cs_M_82 (m_M_freeOpening l c4 : x_M l _ _ _ _ (.inl (some (xI v5))) _ 0 0) (by decide) rfl (Nat.le_of_ble_eq_true rfl) (d_M_spawn 9 rfl) ?_
        refine x_if_ge (pc := 18) (tgt := 24) C (d_M_spawn 10 rfl) (by decide) (fun c6 => ?_) (fun c6 => ?_)
        · rw [if_pos c6] at h
          refine x_aload_n (pc := 24) C (d_M_spawn 13 rfl) rfl 1 rfl ?_
          refine x_iload_n (pc := 25) C (d_M_spawn 14 rfl) rfl 0 rfl ?_
          cases c7 : f_M_begin x0 v2 (xsI st 32 x0 0 0) with
          | none => rw [c7] at h; cases h
          | some w22 =>
            obtain ⟨v8, st9⟩ := w22
            rw [c7] at h
            dsimp only at h
            refine x_callV (mc := 0) (ms := 0) (pc := 26) (bL := [xI (v2)]) (K := []) C cs_M_92 (m_M_begin l c7 : x_M l _ _ _ _ (.inl none) _ 0 0) (by decide) rfl (Nat.le_of_ble_eq_true rfl) (d_M_spawn 15 rfl) ?_
            refine x_aload_n (pc := 29) C (d_M_spawn 16 rfl) rfl 1 rfl ?_
            refine x_iconst (pc := 30) (v := 4) C (by decide) (d_M_spawn 17 rfl) ?_
            refine x_iconst (pc := 31) (v := 0) C (by decide) (d_M_spawn 18 rfl) ?_
            refine x_iconst (pc := 32) (v := 3) C (by decide) (d_M_spawn 19 rfl) ?_
            cases c10 : f_M_newOpening x0 4 0 3 st9 with
            | none => rw [c10] at h; cases h
            | some w21 =>
              obtain ⟨v11, st12⟩ := w21
              rw [c10] at h
              dsimp only at h
              refine x_callV (mc := 0) (ms := 0) (pc := 33) (bL := [xI (4), xI (0), xI (3)]) (K := []) C cs_M_96 (m_M_newOpening l c10 : x_M l _ _ _ _ (.inl (some (xI v11))) _ 0 0) (by decide) rfl (Nat.le_of_ble_eq_true rfl) (d_M_spawn 20 rfl) ?_
              refine x_istore_n (pc := 36) (L2 := [(2, xI (v11)), (1, xI (v2)), (0, xR 32 (some (x0)))]) C (d_M_spawn 21 rfl) rfl (by decide) rfl ?_
              refine x_aload_n (pc := 37) C (d_M_spawn 22 rfl) rfl 2 rfl ?_
              refine x_iload_n (pc := 38) C (d_M_spawn 23 rfl) rfl 1 rfl ?_
              refine x_iload_n (pc := 39) C (d_M_spawn 24 rfl) rfl 0 rfl ?_
              cases c13 : f_M_give x0 v2 v11 st12 with
              | none => rw [c13] at h; cases h
              | some w20 =>
                obtain ⟨v14, st15⟩ := w20
                rw [c13] at h
                dsimp only at h
                refine x_callV (mc := 0) (ms := 0) (pc := 40) (bL := [xI (v2), xI (v11)]) (K := []) C cs_M_100 (m_M_give l c13 : x_M l _ _ _ _ (.inl (some (xI v14))) _ 0 0) (by decide) rfl (Nat.le_of_ble_eq_true rfl) (d_M_spawn 25 rfl) ?_
                refine x_popv (pc := 43) C rfl (d_M_spawn 26 rfl) ?_
                refine x_aload_n (pc := 44) C (d_M_spawn 27 rfl) rfl 2 rfl ?_
                refine x_iload_n (pc := 45) C (d_M_spawn 28 rfl) rfl 1 rfl ?_
                refine x_iload_n (pc := 46) C (d_M_spawn 29 rfl) rfl 0 rfl ?_
                cases c16 : f_M_give x0 v2 v11 st15 with
                | none => rw [c16] at h; cases h
                | some w19 =>
                  obtain ⟨v17, st18⟩ := w19
                  rw [c16] at h
                  dsimp only at h
                  refine x_callV (mc := 0) (ms := 0) (pc := 47) (bL := [xI (v2), xI (v11)]) (K := []) C cs_M_100 (m_M_give l c16 : x_M l _ _ _ _ (.inl (some (xI v17))) _ 0 0) (by decide) rfl (Nat.le_of_ble_eq_true rfl) (d_M_spawn 30 rfl) ?_
                  refine x_popv (pc := 50) C rfl (d_M_spawn 31 rfl) ?_
                  refine x_iload_n (pc := 51) C (d_M_spawn 32 rfl) rfl 1 rfl ?_
                  cases h
                  exact x_iret (pc := 52) C hret rfl (Nat.zero_le _) (Nat.zero_le _) (d_M_spawn 33 rfl)
        · rw [if_neg c6] at h
          refine x_bipush (pc := 21) (v := (-4)) C (by decide) (d_M_spawn 11 rfl) ?_
          cases h
          exact x_iret (pc := 23) C hret rfl (Nat.zero_le _) (Nat.zero_le _) (d_M_spawn 12 rfl)
def f_M_in (x0 : Int32) (x1 : Int32) (x2 : Int32) (st : XS) : Option Int32 :=
  if x0 < x1 then
    some (0)
  else
    if x2 < x0 then
      some (0)
    else
      some (1)
set_option maxRecDepth 100000 in
set_option maxHeartbeats 4000000 in
theorem m_M_in (l : Launch) {x0 : Int32} {x1 : Int32} {x2 : Int32} {st : XS} {r : Int32} (h : f_M_in x0 x1 x2 st = some r) : x_M l M_M_in rm_M_in [xI (x0), xI (x1), xI (x2)] st (.inl (some (xI r))) st 0 0 := by
  refine x_enter (Nat.le_of_ble_eq_true rfl) ?_
  intro p e s m below meth c D cA g args B C
  have hret := B.2.2.2.2.2.2.2.2.1
  have hmn := B.2.2.2.2.2.2.2.1
  have hex := B.2.2.2.2.2.2.2.2.2.1
  unfold f_M_in at h
  refine x_iload_n (pc := 0) C (d_M_in 0 rfl) rfl 0 rfl ?_
  refine x_iload_n (pc := 1) C (d_M_in 1 rfl) rfl 1 rfl ?_
  refine x_icmp_lt (pc := 2) (tgt := 14) C (d_M_in 2 rfl) (by decide) (fun c1 => ?_) (fun c1 => ?_)
  · rw [if_pos c1] at h
    refine x_iconst (pc := 14) (v := 0) C (by decide) (d_M_in 8 rfl) ?_
    cases h
    exact x_iret (pc := 15) C hret rfl (Nat.zero_le _) (Nat.zero_le _) (d_M_in 9 rfl)
  · rw [if_neg c1] at h
    refine x_iload_n (pc := 5) C (d_M_in 3 rfl) rfl 0 rfl ?_
    refine x_iload_n (pc := 6) C (d_M_in 4 rfl) rfl 2 rfl ?_
    refine x_icmp_gt (pc := 7) (tgt := 14) C (d_M_in 5 rfl) (by decide) (fun c2 => ?_) (fun c2 => ?_)
    · rw [if_pos c2] at h
      refine x_iconst (pc := 14) (v := 0) C (by decide) (d_M_in 8 rfl) ?_
      cases h
      exact x_iret (pc := 15) C hret rfl (Nat.zero_le _) (Nat.zero_le _) (d_M_in 9 rfl)
    · rw [if_neg c2] at h
      refine x_iconst (pc := 10) (v := 1) C (by decide) (d_M_in 6 rfl) ?_
      refine x_goto (pc := 11) (tgt := 15) C (d_M_in 7 rfl) (by decide) ?_
      cases h
      exact x_iret (pc := 15) C hret rfl (Nat.zero_le _) (Nat.zero_le _) (d_M_in 9 rfl)
def f_M_isReady (x0 : Nat) (x1 : Int32) (st : XS) : Option Int32 :=
  match f_M_in x1 0 7 st with
  | none => none
  | some v2 =>
    if v2 = 0 then
      some (0)
    else
      match st.2.2.1 32 x0 1 with
      | none => none
      | some i4 =>
        if x_in x1 8 then
          if (st.1 33 i4 x1.toNatClampNeg) = 1 then
            some (1)
          else
            some (0)
        else none
set_option maxRecDepth 100000 in
set_option maxHeartbeats 4000000 in
theorem m_M_isReady (l : Launch) {x0 : Nat} {x1 : Int32} {st : XS} {r : Int32} (h : f_M_isReady x0 x1 st = some r) : x_M l M_M_isReady rm_M_isReady [xR 32 (some (x0)), xI (x1)] st (.inl (some (xI r))) st 0 0 := by
  refine x_enter (Nat.le_of_ble_eq_true rfl) ?_
  intro p e s m below meth c D cA g args B C
  have hret := B.2.2.2.2.2.2.2.2.1
  have hmn := B.2.2.2.2.2.2.2.1
  have hex := B.2.2.2.2.2.2.2.2.2.1
  unfold f_M_isReady at h
  refine x_iload_n (pc := 0) C (d_M_isReady 0 rfl) rfl 1 rfl ?_
  refine x_iconst (pc := 1) (v := 0) C (by decide) (d_M_isReady 1 rfl) ?_
  refine x_bipush (pc := 2) (v := 7) C (by decide) (d_M_isReady 2 rfl) ?_
  cases c1 : f_M_in x1 0 7 st with
  | none => rw [c1] at h; cases h
  | some v2 =>
    rw [c1] at h
    dsimp only at h
    refine x_callS (mc := 0) (ms := 0) (pc := 4) (aL := [xI (x1), xI (0), xI (7)]) (K := []) C cs_M_70 (m_M_in l c1 : x_M l _ _ _ _ (.inl (some (xI v2))) _ 0 0) (by decide) rfl (Nat.le_of_ble_eq_true rfl) (d_M_isReady 3 rfl) ?_
    refine x_if_eq (pc := 7) (tgt := 24) C (d_M_isReady 4 rfl) (by decide) (fun c3 => ?_) (fun c3 => ?_)
    · rw [if_pos c3] at h
      refine x_iconst (pc := 24) (v := 0) C (by decide) (d_M_isReady 13 rfl) ?_
      cases h
      exact x_iret (pc := 25) C hret rfl (Nat.zero_le _) (Nat.zero_le _) (d_M_isReady 14 rfl)
    · rw [if_neg c3] at h
      refine x_aload_n (pc := 10) C (d_M_isReady 5 rfl) rfl 0 rfl ?_
      refine x_getR (pc := 11) (t := 33) C fl_M_7 rfl rfl (d_M_isReady 6 rfl) ?_
      refine x_iload_n (pc := 14) C (d_M_isReady 7 rfl) rfl 1 rfl ?_
      cases c5 : st.2.2.1 32 x0 1 with
      | none => rw [c5] at h; cases h
      | some i4 =>
        rw [c5] at h
        dsimp only at h
        by_cases b6 : x_in x1 8
        · rw [if_pos b6] at h
          refine x_iald (pc := 15) C ar_33 b6 (d_M_isReady 8 rfl) ?_
          refine x_iconst (pc := 16) (v := 1) C (by decide) (d_M_isReady 9 rfl) ?_
          refine x_icmp_ne (pc := 17) (tgt := 24) C (d_M_isReady 10 rfl) (by decide) (fun c7 => ?_) (fun c7 => ?_)
          · rw [if_neg c7] at h
            refine x_iconst (pc := 24) (v := 0) C (by decide) (d_M_isReady 13 rfl) ?_
            cases h
            exact x_iret (pc := 25) C hret rfl (Nat.zero_le _) (Nat.zero_le _) (d_M_isReady 14 rfl)
          · rw [if_pos c7] at h
            refine x_iconst (pc := 20) (v := 1) C (by decide) (d_M_isReady 11 rfl) ?_
            refine x_goto (pc := 21) (tgt := 25) C (d_M_isReady 12 rfl) (by decide) ?_
            cases h
            exact x_iret (pc := 25) C hret rfl (Nat.zero_le _) (Nat.zero_le _) (d_M_isReady 14 rfl)
        · rw [if_neg b6] at h; cases h
def f_M_fails (x0 : Nat) (x1 : Int32) (x2 : Int32) (st : XS) : Option (Int32 × XS) :=
  if x1 = 0 then
    if x2 = 0 then
      if ((xsI st 32 x0 0 0).1 32 x0 0) ≤ 0 then
        some (0, xsI st 32 x0 0 0)
      else
        some (1, xsI st 32 x0 0 0)
    else
      if ((xsI st 32 x0 0 2).1 32 x0 0) ≤ 0 then
        some (0, xsI st 32 x0 0 2)
      else
        some (1, xsI st 32 x0 0 2)
  else
    if ((xsI st 32 x0 0 1).1 32 x0 0) ≤ 0 then
      some (0, xsI st 32 x0 0 1)
    else
      some (1, xsI st 32 x0 0 1)
set_option maxRecDepth 100000 in
set_option maxHeartbeats 4000000 in
theorem m_M_fails (l : Launch) {x0 : Nat} {x1 : Int32} {x2 : Int32} {st : XS} {r : Int32} {st2 : XS} (h : f_M_fails x0 x1 x2 st = some (r, st2)) : x_M l M_M_fails rm_M_fails [xR 32 (some (x0)), xI (x1), xI (x2)] st (.inl (some (xI r))) st2 0 0 := by
  refine x_enter (Nat.le_of_ble_eq_true rfl) ?_
  intro p e s m below meth c D cA g args B C
  have hret := B.2.2.2.2.2.2.2.2.1
  have hmn := B.2.2.2.2.2.2.2.1
  have hex := B.2.2.2.2.2.2.2.2.2.1
  unfold f_M_fails at h
  refine x_aload_n (pc := 0) C (d_M_fails 0 rfl) rfl 0 rfl ?_
  refine x_iload_n (pc := 1) C (d_M_fails 1 rfl) rfl 1 rfl ?_
  refine x_if_eq (pc := 2) (tgt := 9) C (d_M_fails 2 rfl) (by decide) (fun c1 => ?_) (fun c1 => ?_)
  · rw [if_pos c1] at h
    refine x_iload_n (pc := 9) C (d_M_fails 5 rfl) rfl 2 rfl ?_
    refine x_if_eq (pc := 10) (tgt := 17) C (d_M_fails 6 rfl) (by decide) (fun c2 => ?_) (fun c2 => ?_)
    · rw [if_pos c2] at h
      refine x_iconst (pc := 17) (v := 0) C (by decide) (d_M_fails 9 rfl) ?_
      refine x_putI (pc := 18) C fl_M_66 (pf_M_66 _) rfl ty_32_0 (d_M_fails 10 rfl) ?_
      refine x_aload_n (pc := 21) C (d_M_fails 11 rfl) rfl 0 rfl ?_
      refine x_getI (pc := 22) C fl_M_66 rfl (d_M_fails 12 rfl) ?_
      refine x_if_le (pc := 25) (tgt := 32) C (d_M_fails 13 rfl) (by decide) (fun c3 => ?_) (fun c3 => ?_)
      · rw [if_pos c3] at h
        refine x_iconst (pc := 32) (v := 0) C (by decide) (d_M_fails 16 rfl) ?_
        cases h
        exact x_iret (pc := 33) C hret rfl (Nat.zero_le _) (Nat.zero_le _) (d_M_fails 17 rfl)
      · rw [if_neg c3] at h
        refine x_iconst (pc := 28) (v := 1) C (by decide) (d_M_fails 14 rfl) ?_
        refine x_goto (pc := 29) (tgt := 33) C (d_M_fails 15 rfl) (by decide) ?_
        cases h
        exact x_iret (pc := 33) C hret rfl (Nat.zero_le _) (Nat.zero_le _) (d_M_fails 17 rfl)
    · rw [if_neg c2] at h
      refine x_iconst (pc := 13) (v := 2) C (by decide) (d_M_fails 7 rfl) ?_
      refine x_goto (pc := 14) (tgt := 18) C (d_M_fails 8 rfl) (by decide) ?_
      refine x_putI (pc := 18) C fl_M_66 (pf_M_66 _) rfl ty_32_0 (d_M_fails 10 rfl) ?_
      refine x_aload_n (pc := 21) C (d_M_fails 11 rfl) rfl 0 rfl ?_
      refine x_getI (pc := 22) C fl_M_66 rfl (d_M_fails 12 rfl) ?_
      refine x_if_le (pc := 25) (tgt := 32) C (d_M_fails 13 rfl) (by decide) (fun c4 => ?_) (fun c4 => ?_)
      · rw [if_pos c4] at h
        refine x_iconst (pc := 32) (v := 0) C (by decide) (d_M_fails 16 rfl) ?_
        cases h
        exact x_iret (pc := 33) C hret rfl (Nat.zero_le _) (Nat.zero_le _) (d_M_fails 17 rfl)
      · rw [if_neg c4] at h
        refine x_iconst (pc := 28) (v := 1) C (by decide) (d_M_fails 14 rfl) ?_
        refine x_goto (pc := 29) (tgt := 33) C (d_M_fails 15 rfl) (by decide) ?_
        cases h
        exact x_iret (pc := 33) C hret rfl (Nat.zero_le _) (Nat.zero_le _) (d_M_fails 17 rfl)
  · rw [if_neg c1] at h
    refine x_iconst (pc := 5) (v := 1) C (by decide) (d_M_fails 3 rfl) ?_
    refine x_goto (pc := 6) (tgt := 18) C (d_M_fails 4 rfl) (by decide) ?_
    refine x_putI (pc := 18) C fl_M_66 (pf_M_66 _) rfl ty_32_0 (d_M_fails 10 rfl) ?_
    refine x_aload_n (pc := 21) C (d_M_fails 11 rfl) rfl 0 rfl ?_
    refine x_getI (pc := 22) C fl_M_66 rfl (d_M_fails 12 rfl) ?_
    refine x_if_le (pc := 25) (tgt := 32) C (d_M_fails 13 rfl) (by decide) (fun c5 => ?_) (fun c5 => ?_)
    · rw [if_pos c5] at h
      refine x_iconst (pc := 32) (v := 0) C (by decide) (d_M_fails 16 rfl) ?_
      cases h
      exact x_iret (pc := 33) C hret rfl (Nat.zero_le _) (Nat.zero_le _) (d_M_fails 17 rfl)
    · rw [if_neg c5] at h
      refine x_iconst (pc := 28) (v := 1) C (by decide) (d_M_fails 14 rfl) ?_
      refine x_goto (pc := 29) (tgt := 33) C (d_M_fails 15 rfl) (by decide) ?_
      cases h
      exact x_iret (pc := 33) C hret rfl (Nat.zero_le _) (Nat.zero_le _) (d_M_fails 17 rfl)
def f_M_fork_42  : Nat → Nat → Int32 → Int32 → Int32 → XS → Option (Int32 × XS)
  | 0, _, _, _, _, _ => none
  | n + 1, x0, x1, x2, x3, st =>
    if 8 ≤ x3 then
      some (x2, st)
    else
      match st.2.2.1 32 x0 4 with
      | none => none
      | some i2 =>
        if x_in (((8 : Int32) * x1) + x3) 64 then
          if x_in (((8 : Int32) * x2) + x3) 64 then
            f_M_fork_42 n x0 x1 x2 (x3 + 1) (xsI st 36 i2 (((8 : Int32) * x2) + x3).toNatClampNeg (st.1 36 i2 (((8 : Int32) * x1) + x3).toNatClampNeg))
          else none
        else none
set_option maxRecDepth 100000 in
set_option maxHeartbeats 4000000 in
theorem v_M_fork_42 {p : Program} {l : Launch} {e : Env} {s : State} {m : MethodId} {args : Array Value} {below : List Frame} {meth : Method} {c : Code} {D : va_G} {cA : Nat → ClassId} {g0 : Nat → Nat → Nat} {n0 : Nat → Nat} {r : Int32} {st2 : XS} (C : x_C p e rm_M_fork s m args meth c D cA (x_A g0 n0 s.heap.size) M_M_fork.2.1 M_M_fork.1 M_M_fork.2.2.1) (hret : meth.sig.returnType = M_M_fork.2.2.2.1) (hmn : meth.name = M_M_fork.2.2.2.2.2) (hex : c.exceptionTable.toList.map (fun h => (h.startPc, h.endPc, h.handlerPc, h.catchType)) = M_M_fork.2.2.2.2.1)  : ∀ (n : Nat) (x0 : Nat) (x1 : Int32) (x2 : Int32) (x3 : Int32) (st : XS), f_M_fork_42 n x0 x1 x2 x3 st = some (r, st2) → x_V p l e rm_M_fork s m args below meth c D cA (x_A g0 n0 s.heap.size) M_M_fork.2.2.1 g0 n0 (x_MQ D cA g0 n0 below s 0 0 (.inl (some (xI r))) st2) 42 [(0, xR 32 (some (x0))), (1, xI (x1)), (2, xI (x2)), (3, xI (x3))] [] st 0 0 := by
  intro n
  induction n with
  | zero => intro x0 x1 x2 x3 st h; cases h
  | succ n ih =>
    intro x0 x1 x2 x3 st h
    rw [f_M_fork_42.eq_def] at h
    dsimp only at h
    refine x_iload_n (pc := 42) C (d_M_fork 25 rfl) rfl 3 rfl ?_
    refine x_bipush (pc := 43) (v := 8) C (by decide) (d_M_fork 26 rfl) ?_
    refine x_icmp_ge (pc := 45) (tgt := 76) C (d_M_fork 27 rfl) (by decide) (fun c1 => ?_) (fun c1 => ?_)
    · rw [if_pos c1] at h
      refine x_iload_n (pc := 76) C (d_M_fork 46 rfl) rfl 2 rfl ?_
      cases h
      exact x_iret (pc := 77) C hret rfl (Nat.zero_le _) (Nat.zero_le _) (d_M_fork 47 rfl)
    · rw [if_neg c1] at h
      refine x_aload_n (pc := 48) C (d_M_fork 28 rfl) rfl 0 rfl ?_
      refine x_getR (pc := 49) (t := 36) C fl_M_19 rfl rfl (d_M_fork 29 rfl) ?_
      refine x_bipush (pc := 52) (v := 8) C (by decide) (d_M_fork 30 rfl) ?_
      refine x_iload_n (pc := 54) C (d_M_fork 31 rfl) rfl 2 rfl ?_
      refine x_imul (pc := 55) C (d_M_fork 32 rfl) ?_
      refine x_iload_n (pc := 56) C (d_M_fork 33 rfl) rfl 3 rfl ?_
      refine x_iadd (pc := 57) C (d_M_fork 34 rfl) ?_
      refine x_aload_n (pc := 58) C (d_M_fork 35 rfl) rfl 0 rfl ?_
      refine x_getR (pc := 59) (t := 36) C fl_M_19 rfl rfl (d_M_fork 36 rfl) ?_
      refine x_bipush (pc := 62) (v := 8) C (by decide) (d_M_fork 37 rfl) ?_
      refine x_iload_n (pc := 64) C (d_M_fork 38 rfl) rfl 1 rfl ?_
      refine x_imul (pc := 65) C (d_M_fork 39 rfl) ?_
      refine x_iload_n (pc := 66) C (d_M_fork 40 rfl) rfl 3 rfl ?_
      refine x_iadd (pc := 67) C (d_M_fork 41 rfl) ?_
      cases c3 : st.2.2.1 32 x0 4 with
      | none => rw [c3] at h; cases h
      | some i2 =>
        rw [c3] at h
        dsimp only at h
        by_cases b4 : x_in (((8 : Int32) * x1) + x3) 64
        · rw [if_pos b4] at h
          refine x_iald (pc := 68) C ar_36 b4 (d_M_fork 42 rfl) ?_
          by_cases b5 : x_in (((8 : Int32) * x2) + x3) 64
          · rw [if_pos b5] at h
            refine x_iast (pc := 69) C ar_36 b5 (d_M_fork 43 rfl) ?_
            refine x_iinc (pc := 70) (v := x3 + 1) (L2 := [(3, xI (x3 + 1)), (0, xR 32 (some (x0))), (1, xI (x1)), (2, xI (x2))]) C (d_M_fork 44 rfl) 3 rfl rfl (by decide) rfl ?_
            refine x_goto (pc := 73) (tgt := 42) C (d_M_fork 45 rfl) (by decide) ?_
            exact x_sub [1, 2, 3, 0] rfl (ih _ _ _ _ _ h)
          · rw [if_neg b5] at h; cases h
        · rw [if_neg b4] at h; cases h
def f_M_fork_14  (x0 : Nat) (x1 : Int32) (s0 : Int32) (s1 : Option Nat) (st : XS) : Option (Int32 × XS) :=
  match s1 with
  | none => none
  | some i6 =>
    match f_M_fails i6 s0 0 st with
    | none => none
    | some (v9, st10) =>
      if v9 = 0 then
        match f_M_freeProcess x0 st10 with
        | none => none
        | some v13 =>
          if 0 ≤ v13 then
            match f_M_begin x0 v13 st10 with
            | none => none
            | some (_, st17) =>
              f_M_fork_42 100 x0 x1 v13 0 st17
          else
            some ((-4), st10)
      else
        some (0, st10)
set_option maxRecDepth 100000 in
set_option maxHeartbeats 4000000 in
theorem v_M_fork_14 {p : Program} {l : Launch} {e : Env} {s : State} {m : MethodId} {args : Array Value} {below : List Frame} {meth : Method} {c : Code} {D : va_G} {cA : Nat → ClassId} {g0 : Nat → Nat → Nat} {n0 : Nat → Nat} {r : Int32} {st2 : XS} (C : x_C p e rm_M_fork s m args meth c D cA (x_A g0 n0 s.heap.size) M_M_fork.2.1 M_M_fork.1 M_M_fork.2.2.1) (hret : meth.sig.returnType = M_M_fork.2.2.2.1) (hmn : meth.name = M_M_fork.2.2.2.2.2) (hex : c.exceptionTable.toList.map (fun h => (h.startPc, h.endPc, h.handlerPc, h.catchType)) = M_M_fork.2.2.2.2.1)  (x0 : Nat) (x1 : Int32) (s0 : Int32) (s1 : Option Nat) (st : XS) (h : f_M_fork_14 x0 x1 s0 s1 st = some (r, st2)) : x_V p l e rm_M_fork s m args below meth c D cA (x_A g0 n0 s.heap.size) M_M_fork.2.2.1 g0 n0 (x_MQ D cA g0 n0 below s 0 0 (.inl (some (xI r))) st2) 14 [(0, xR 32 (some (x0))), (1, xI (x1))] [xI (s0), xR 32 (s1)] st 0 0 := by
  unfold f_M_fork_14 at h
  refine x_iconst (pc := 14) (v := 0) C (by decide) (d_M_fork 8 rfl) ?_
  cases c7 : s1 with
  | none => rw [c7] at h; cases h
  | some i6 =>
    rw [c7] at h
    dsimp only at h
    cases c8 : f_M_fails i6 s0 0 st with
    | none => rw [c8] at h; cases h
    | some w20 =>
      obtain ⟨v9, st10⟩ := w20
      rw [c8] at h
      dsimp only at h
      refine x_callV (mc := 0) (ms := 0) (pc := 15) (bL := [xI (s0), xI (0)]) (K := []) C cs_M_107 (m_M_fails l c8 : x_M l _ _ _ _ (.inl (some (xI v9))) _ 0 0) (by decide) rfl (Nat.le_of_ble_eq_true rfl) (d_M_fork 9 rfl) ?_
      refine x_if_eq (pc := 18) (tgt := 23) C (d_M_fork 10 rfl) (by decide) (fun c11 => ?_) (fun c11 => ?_)
      · rw [if_pos c11] at h
        refine x_aload_n (pc := 23) C (d_M_fork 13 rfl) rfl 0 rfl ?_
        cases c12 : f_M_freeProcess x0 st10 with
        | none => rw [c12] at h; cases h
        | some v13 =>
          rw [c12] at h
          dsimp only at h
          refine x_callV (mc := 0) (ms := 0) (pc := 24) (bL := []) (K := []) C cs_M_89 (m_M_freeProcess l c12 : x_M l _ _ _ _ (.inl (some (xI v13))) _ 0 0) (by decide) rfl (Nat.le_of_ble_eq_true rfl) (d_M_fork 14 rfl) ?_
          refine x_istore_n (pc := 27) (L2 := [(2, xI (v13)), (0, xR 32 (some (x0))), (1, xI (x1))]) C (d_M_fork 15 rfl) rfl (by decide) rfl ?_
          refine x_iload_n (pc := 28) C (d_M_fork 16 rfl) rfl 0 rfl ?_
          refine x_if_ge (pc := 29) (tgt := 35) C (d_M_fork 17 rfl) (by decide) (fun c14 => ?_) (fun c14 => ?_)
          · rw [if_pos c14] at h
            refine x_aload_n (pc := 35) C (d_M_fork 20 rfl) rfl 1 rfl ?_
            refine x_iload_n (pc := 36) C (d_M_fork 21 rfl) rfl 0 rfl ?_
            cases c15 : f_M_begin x0 v13 st10 with
            | none => rw [c15] at h; cases h
            | some w18 =>
              obtain ⟨v16, st17⟩ := w18
              rw [c15] at h
              dsimp only at h
              refine x_callV (mc := 0) (ms := 0) (pc := 37) (bL := [xI (v13)]) (K := []) C cs_M_92 (m_M_begin l c15 : x_M l _ _ _ _ (.inl none) _ 0 0) (by decide) rfl (Nat.le_of_ble_eq_true rfl) (d_M_fork 22 rfl) ?_
              refine x_iconst (pc := 40) (v := 0) C (by decide) (d_M_fork 23 rfl) ?_
              refine x_istore_n (pc := 41) (L2 := [(3, xI (0)), (2, xI (v13)), (0, xR 32 (some (x0))), (1, xI (x1))]) C (d_M_fork 24 rfl) rfl (by decide) rfl ?_
              exact x_sub [2, 3, 1, 0] rfl (v_M_fork_42 C hret hmn hex 100 _ _ _ _ _ h)
          · rw [if_neg c14] at h
            refine x_bipush (pc := 32) (v := (-4)) C (by decide) (d_M_fork 18 rfl) ?_
            cases h
            exact x_iret (pc := 34) C hret rfl (Nat.zero_le _) (Nat.zero_le _) (d_M_fork 19 rfl)
      · rw [if_neg c11] at h
        refine x_iconst (pc := 21) (v := 0) C (by decide) (d_M_fork 11 rfl) ?_
        cases h
        exact x_iret (pc := 22) C hret rfl (Nat.zero_le _) (Nat.zero_le _) (d_M_fork 12 rfl)
def f_M_fork (x0 : Nat) (x1 : Int32) (st : XS) : Option (Int32 × XS) :=
  match f_M_isReady x0 x1 st with
  | none => none
  | some v22 =>
    if v22 = 0 then
      f_M_fork_14 x0 x1 1 (some (x0)) st
    else
      f_M_fork_14 x0 x1 0 (some (x0)) st
set_option maxRecDepth 100000 in
set_option maxHeartbeats 4000000 in
theorem m_M_fork (l : Launch) {x0 : Nat} {x1 : Int32} {st : XS} {r : Int32} {st2 : XS} (h : f_M_fork x0 x1 st = some (r, st2)) : x_M l M_M_fork rm_M_fork [xR 32 (some (x0)), xI (x1)] st (.inl (some (xI r))) st2 0 0 := by
  refine x_enter (Nat.le_of_ble_eq_true rfl) ?_
  intro p e s m below meth c D cA g args B C
  have hret := B.2.2.2.2.2.2.2.2.1
  have hmn := B.2.2.2.2.2.2.2.1
  have hex := B.2.2.2.2.2.2.2.2.2.1
  unfold f_M_fork at h
  refine x_aload_n (pc := 0) C (d_M_fork 0 rfl) rfl 0 rfl ?_
  refine x_aload_n (pc := 1) C (d_M_fork 1 rfl) rfl 0 rfl ?_
  refine x_iload_n (pc := 2) C (d_M_fork 2 rfl) rfl 1 rfl ?_
  cases c21 : f_M_isReady x0 x1 st with
  | none => rw [c21] at h; cases h
  | some v22 =>
    rw [c21] at h
    dsimp only at h
    refine x_callV (mc := 0) (ms := 0) (pc := 3) (bL := [xI (x1)]) (K := [xR 32 (some (x0))]) C cs_M_103 (m_M_isReady l c21 : x_M l _ _ _ _ (.inl (some (xI v22))) _ 0 0) (by decide) rfl (Nat.le_of_ble_eq_true rfl) (d_M_fork 3 rfl) ?_
    refine x_if_ne (pc := 6) (tgt := 13) C (d_M_fork 4 rfl) (by decide) (fun c23 => ?_) (fun c23 => ?_)
    · rw [if_neg c23] at h
      refine x_iconst (pc := 13) (v := 0) C (by decide) (d_M_fork 7 rfl) ?_
      exact x_sub [0, 1] rfl (v_M_fork_14 C hret hmn hex _ _ _ _ _ h)
    · rw [if_pos c23] at h
      refine x_iconst (pc := 9) (v := 1) C (by decide) (d_M_fork 5 rfl) ?_
      refine x_goto (pc := 10) (tgt := 14) C (d_M_fork 6 rfl) (by decide) ?_
      exact x_sub [0, 1] rfl (v_M_fork_14 C hret hmn hex _ _ _ _ _ h)
def f_M_isThere (x0 : Nat) (x1 : Int32) (st : XS) : Option Int32 :=
  match f_M_in x1 0 7 st with
  | none => none
  | some v2 =>
    if v2 = 0 then
      some (0)
    else
      match st.2.2.1 32 x0 1 with
      | none => none
      | some i4 =>
        if x_in x1 8 then
          if (st.1 33 i4 x1.toNatClampNeg) ≤ 0 then
            some (0)
          else
            some (1)
        else none
set_option maxRecDepth 100000 in
set_option maxHeartbeats 4000000 in
theorem m_M_isThere (l : Launch) {x0 : Nat} {x1 : Int32} {st : XS} {r : Int32} (h : f_M_isThere x0 x1 st = some r) : x_M l M_M_isThere rm_M_isThere [xR 32 (some (x0)), xI (x1)] st (.inl (some (xI r))) st 0 0 := by
  refine x_enter (Nat.le_of_ble_eq_true rfl) ?_
  intro p e s m below meth c D cA g args B C
  have hret := B.2.2.2.2.2.2.2.2.1
  have hmn := B.2.2.2.2.2.2.2.1
  have hex := B.2.2.2.2.2.2.2.2.2.1
  unfold f_M_isThere at h
  refine x_iload_n (pc := 0) C (d_M_isThere 0 rfl) rfl 1 rfl ?_
  refine x_iconst (pc := 1) (v := 0) C (by decide) (d_M_isThere 1 rfl) ?_
  refine x_bipush (pc := 2) (v := 7) C (by decide) (d_M_isThere 2 rfl) ?_
  cases c1 : f_M_in x1 0 7 st with
  | none => rw [c1] at h; cases h
  | some v2 =>
    rw [c1] at h
    dsimp only at h
    refine x_callS (mc := 0) (ms := 0) (pc := 4) (aL := [xI (x1), xI (0), xI (7)]) (K := []) C cs_M_70 (m_M_in l c1 : x_M l _ _ _ _ (.inl (some (xI v2))) _ 0 0) (by decide) rfl (Nat.le_of_ble_eq_true rfl) (d_M_isThere 3 rfl) ?_
    refine x_if_eq (pc := 7) (tgt := 23) C (d_M_isThere 4 rfl) (by decide) (fun c3 => ?_) (fun c3 => ?_)
    · rw [if_pos c3] at h
      refine x_iconst (pc := 23) (v := 0) C (by decide) (d_M_isThere 12 rfl) ?_
      cases h
      exact x_iret (pc := 24) C hret rfl (Nat.zero_le _) (Nat.zero_le _) (d_M_isThere 13 rfl)
    · rw [if_neg c3] at h
      refine x_aload_n (pc := 10) C (d_M_isThere 5 rfl) rfl 0 rfl ?_
      refine x_getR (pc := 11) (t := 33) C fl_M_7 rfl rfl (d_M_isThere 6 rfl) ?_
      refine x_iload_n (pc := 14) C (d_M_isThere 7 rfl) rfl 1 rfl ?_
      cases c5 : st.2.2.1 32 x0 1 with
      | none => rw [c5] at h; cases h
      | some i4 =>
        rw [c5] at h
        dsimp only at h
        by_cases b6 : x_in x1 8
        · rw [if_pos b6] at h
          refine x_iald (pc := 15) C ar_33 b6 (d_M_isThere 8 rfl) ?_
          refine x_if_le (pc := 16) (tgt := 23) C (d_M_isThere 9 rfl) (by decide) (fun c7 => ?_) (fun c7 => ?_)
          · rw [if_pos c7] at h
            refine x_iconst (pc := 23) (v := 0) C (by decide) (d_M_isThere 12 rfl) ?_
            cases h
            exact x_iret (pc := 24) C hret rfl (Nat.zero_le _) (Nat.zero_le _) (d_M_isThere 13 rfl)
          · rw [if_neg c7] at h
            refine x_iconst (pc := 19) (v := 1) C (by decide) (d_M_isThere 10 rfl) ?_
            refine x_goto (pc := 20) (tgt := 24) C (d_M_isThere 11 rfl) (by decide) ?_
            cases h
            exact x_iret (pc := 24) C hret rfl (Nat.zero_le _) (Nat.zero_le _) (d_M_isThere 13 rfl)
        · rw [if_neg b6] at h; cases h
def f_M_holders_4  : Nat → Nat → Int32 → Int32 → Int32 → XS → Option Int32
  | 0, _, _, _, _, _ => none
  | n + 1, x0, x1, x2, x3, st =>
    if 64 ≤ x3 then
      some (x2)
    else
      match st.2.2.1 32 x0 4 with
      | none => none
      | some i2 =>
        if x_in x3 64 then
          if (st.1 36 i2 x3.toNatClampNeg) = x1 then
            f_M_holders_4 n x0 x1 (x2 + (1 : Int32)) (x3 + 1) st
          else
            f_M_holders_4 n x0 x1 x2 (x3 + 1) st
        else none
set_option maxRecDepth 100000 in
set_option maxHeartbeats 4000000 in
theorem v_M_holders_4 {p : Program} {l : Launch} {e : Env} {s : State} {m : MethodId} {args : Array Value} {below : List Frame} {meth : Method} {c : Code} {D : va_G} {cA : Nat → ClassId} {g0 : Nat → Nat → Nat} {n0 : Nat → Nat} {r : Int32} (C : x_C p e rm_M_holders s m args meth c D cA (x_A g0 n0 s.heap.size) M_M_holders.2.1 M_M_holders.1 M_M_holders.2.2.1) (hret : meth.sig.returnType = M_M_holders.2.2.2.1) (hmn : meth.name = M_M_holders.2.2.2.2.2) (hex : c.exceptionTable.toList.map (fun h => (h.startPc, h.endPc, h.handlerPc, h.catchType)) = M_M_holders.2.2.2.2.1)  : ∀ (n : Nat) (x0 : Nat) (x1 : Int32) (x2 : Int32) (x3 : Int32) (st : XS), f_M_holders_4 n x0 x1 x2 x3 st = some r → x_V p l e rm_M_holders s m args below meth c D cA (x_A g0 n0 s.heap.size) M_M_holders.2.2.1 g0 n0 (x_MQ D cA g0 n0 below s 0 0 (.inl (some (xI r))) st) 4 [(0, xR 32 (some (x0))), (1, xI (x1)), (2, xI (x2)), (3, xI (x3))] [] st 0 0 := by
  intro n
  induction n with
  | zero => intro x0 x1 x2 x3 st h; cases h
  | succ n ih =>
    intro x0 x1 x2 x3 st h
    rw [f_M_holders_4.eq_def] at h
    dsimp only at h
    refine x_iload_n (pc := 4) C (d_M_holders 4 rfl) rfl 3 rfl ?_
    refine x_bipush (pc := 5) (v := 64) C (by decide) (d_M_holders 5 rfl) ?_
    refine x_icmp_ge (pc := 7) (tgt := 34) C (d_M_holders 6 rfl) (by decide) (fun c1 => ?_) (fun c1 => ?_)
    · rw [if_pos c1] at h
      refine x_iload_n (pc := 34) C (d_M_holders 21 rfl) rfl 2 rfl ?_
      cases h
      exact x_iret (pc := 35) C hret rfl (Nat.zero_le _) (Nat.zero_le _) (d_M_holders 22 rfl)
    · rw [if_neg c1] at h
      refine x_aload_n (pc := 10) C (d_M_holders 7 rfl) rfl 0 rfl ?_
      refine x_getR (pc := 11) (t := 36) C fl_M_19 rfl rfl (d_M_holders 8 rfl) ?_
      refine x_iload_n (pc := 14) C (d_M_holders 9 rfl) rfl 3 rfl ?_
      cases c3 : st.2.2.1 32 x0 4 with
      | none => rw [c3] at h; cases h
      | some i2 =>
        rw [c3] at h
        dsimp only at h
        by_cases b4 : x_in x3 64
        · rw [if_pos b4] at h
          refine x_iald (pc := 15) C ar_36 b4 (d_M_holders 10 rfl) ?_
          refine x_iload_n (pc := 16) C (d_M_holders 11 rfl) rfl 1 rfl ?_
          refine x_icmp_ne (pc := 17) (tgt := 26) C (d_M_holders 12 rfl) (by decide) (fun c5 => ?_) (fun c5 => ?_)
          · rw [if_neg c5] at h
            refine x_iload_n (pc := 26) C (d_M_holders 17 rfl) rfl 2 rfl ?_
            refine x_istore_n (pc := 27) (L2 := [(2, xI (x2)), (0, xR 32 (some (x0))), (1, xI (x1)), (3, xI (x3))]) C (d_M_holders 18 rfl) rfl (by decide) rfl ?_
            refine x_iinc (pc := 28) (v := x3 + 1) (L2 := [(3, xI (x3 + 1)), (2, xI (x2)), (0, xR 32 (some (x0))), (1, xI (x1))]) C (d_M_holders 19 rfl) 3 rfl rfl (by decide) rfl ?_
            refine x_goto (pc := 31) (tgt := 4) C (d_M_holders 20 rfl) (by decide) ?_
            exact x_sub [2, 3, 1, 0] rfl (ih _ _ _ _ _ h)
          · rw [if_pos c5] at h
            refine x_iload_n (pc := 20) C (d_M_holders 13 rfl) rfl 2 rfl ?_
            refine x_iconst (pc := 21) (v := 1) C (by decide) (d_M_holders 14 rfl) ?_
            refine x_iadd (pc := 22) C (d_M_holders 15 rfl) ?_
            refine x_goto (pc := 23) (tgt := 27) C (d_M_holders 16 rfl) (by decide) ?_
            refine x_istore_n (pc := 27) (L2 := [(2, xI (x2 + (1 : Int32))), (0, xR 32 (some (x0))), (1, xI (x1)), (3, xI (x3))]) C (d_M_holders 18 rfl) rfl (by decide) rfl ?_
            refine x_iinc (pc := 28) (v := x3 + 1) (L2 := [(3, xI (x3 + 1)), (2, xI (x2 + (1 : Int32))), (0, xR 32 (some (x0))), (1, xI (x1))]) C (d_M_holders 19 rfl) 3 rfl rfl (by decide) rfl ?_
            refine x_goto (pc := 31) (tgt := 4) C (d_M_holders 20 rfl) (by decide) ?_
            exact x_sub [2, 3, 1, 0] rfl (ih _ _ _ _ _ h)
        · rw [if_neg b4] at h; cases h
def f_M_holders (x0 : Nat) (x1 : Int32) (st : XS) : Option Int32 :=
  f_M_holders_4 100 x0 x1 0 0 st
set_option maxRecDepth 100000 in
set_option maxHeartbeats 4000000 in
theorem m_M_holders (l : Launch) {x0 : Nat} {x1 : Int32} {st : XS} {r : Int32} (h : f_M_holders x0 x1 st = some r) : x_M l M_M_holders rm_M_holders [xR 32 (some (x0)), xI (x1)] st (.inl (some (xI r))) st 0 0 := by
  refine x_enter (Nat.le_of_ble_eq_true rfl) ?_
  intro p e s m below meth c D cA g args B C
  have hret := B.2.2.2.2.2.2.2.2.1
  have hmn := B.2.2.2.2.2.2.2.1
  have hex := B.2.2.2.2.2.2.2.2.2.1
  unfold f_M_holders at h
  refine x_iconst (pc := 0) (v := 0) C (by decide) (d_M_holders 0 rfl) ?_
  refine x_istore_n (pc := 1) (L2 := [(2, xI (0)), (0, xR 32 (some (x0))), (1, xI (x1))]) C (d_M_holders 1 rfl) rfl (by decide) rfl ?_
  refine x_iconst (pc := 2) (v := 0) C (by decide) (d_M_holders 2 rfl) ?_
  refine x_istore_n (pc := 3) (L2 := [(3, xI (0)), (2, xI (0)), (0, xR 32 (some (x0))), (1, xI (x1))]) C (d_M_holders 3 rfl) rfl (by decide) rfl ?_
  exact x_sub [2, 3, 1, 0] rfl (v_M_holders_4 C hret hmn hex 100 _ _ _ _ _ h)
def f_M_openings_5  : Nat → Nat → Int32 → Int32 → Int32 → Int32 → XS → Option Int32
  | 0, _, _, _, _, _, _ => none
  | n + 1, x0, x1, x2, x3, x4, st =>
    if 20 ≤ x4 then
      some (x3)
    else
      match st.2.2.1 32 x0 6 with
      | none => none
      | some i2 =>
        if x_in x4 20 then
          if (st.1 38 i2 x4.toNatClampNeg) = x1 then
            match st.2.2.1 32 x0 7 with
            | none => none
            | some i6 =>
              if x_in x4 20 then
                if (st.1 39 i6 x4.toNatClampNeg) = x2 then
                  f_M_openings_5 n x0 x1 x2 (x3 + (1 : Int32)) (x4 + 1) st
                else
                  f_M_openings_5 n x0 x1 x2 x3 (x4 + 1) st
              else none
          else
            f_M_openings_5 n x0 x1 x2 x3 (x4 + 1) st
        else none
set_option maxRecDepth 100000 in
set_option maxHeartbeats 4000000 in
theorem v_M_openings_5 {p : Program} {l : Launch} {e : Env} {s : State} {m : MethodId} {args : Array Value} {below : List Frame} {meth : Method} {c : Code} {D : va_G} {cA : Nat → ClassId} {g0 : Nat → Nat → Nat} {n0 : Nat → Nat} {r : Int32} (C : x_C p e rm_M_openings s m args meth c D cA (x_A g0 n0 s.heap.size) M_M_openings.2.1 M_M_openings.1 M_M_openings.2.2.1) (hret : meth.sig.returnType = M_M_openings.2.2.2.1) (hmn : meth.name = M_M_openings.2.2.2.2.2) (hex : c.exceptionTable.toList.map (fun h => (h.startPc, h.endPc, h.handlerPc, h.catchType)) = M_M_openings.2.2.2.2.1)  : ∀ (n : Nat) (x0 : Nat) (x1 : Int32) (x2 : Int32) (x3 : Int32) (x4 : Int32) (st : XS), f_M_openings_5 n x0 x1 x2 x3 x4 st = some r → x_V p l e rm_M_openings s m args below meth c D cA (x_A g0 n0 s.heap.size) M_M_openings.2.2.1 g0 n0 (x_MQ D cA g0 n0 below s 0 0 (.inl (some (xI r))) st) 5 [(0, xR 32 (some (x0))), (1, xI (x1)), (2, xI (x2)), (3, xI (x3)), (4, xI (x4))] [] st 0 0 := by
  intro n
  induction n with
  | zero => intro x0 x1 x2 x3 x4 st h; cases h
  | succ n ih =>
    intro x0 x1 x2 x3 x4 st h
    rw [f_M_openings_5.eq_def] at h
    dsimp only at h
    refine x_iload (pc := 5) C (d_M_openings 4 rfl) 4 rfl ?_
    refine x_bipush (pc := 7) (v := 20) C (by decide) (d_M_openings 5 rfl) ?_
    refine x_icmp_ge (pc := 9) (tgt := 48) C (d_M_openings 6 rfl) (by decide) (fun c1 => ?_) (fun c1 => ?_)
    · rw [if_pos c1] at h
      refine x_iload_n (pc := 48) C (d_M_openings 27 rfl) rfl 3 rfl ?_
      cases h
      exact x_iret (pc := 49) C hret rfl (Nat.zero_le _) (Nat.zero_le _) (d_M_openings 28 rfl)
    · rw [if_neg c1] at h
      refine x_aload_n (pc := 12) C (d_M_openings 7 rfl) rfl 0 rfl ?_
      refine x_getR (pc := 13) (t := 38) C fl_M_26 rfl rfl (d_M_openings 8 rfl) ?_
      refine x_iload (pc := 16) C (d_M_openings 9 rfl) 4 rfl ?_
      cases c3 : st.2.2.1 32 x0 6 with
      | none => rw [c3] at h; cases h
      | some i2 =>
        rw [c3] at h
        dsimp only at h
        by_cases b4 : x_in x4 20
        · rw [if_pos b4] at h
          refine x_iald (pc := 18) C ar_38 b4 (d_M_openings 10 rfl) ?_
          refine x_iload_n (pc := 19) C (d_M_openings 11 rfl) rfl 1 rfl ?_
          refine x_icmp_ne (pc := 20) (tgt := 40) C (d_M_openings 12 rfl) (by decide) (fun c5 => ?_) (fun c5 => ?_)
          · rw [if_neg c5] at h
            refine x_iload_n (pc := 40) C (d_M_openings 23 rfl) rfl 3 rfl ?_
            refine x_istore_n (pc := 41) (L2 := [(3, xI (x3)), (0, xR 32 (some (x0))), (1, xI (x1)), (2, xI (x2)), (4, xI (x4))]) C (d_M_openings 24 rfl) rfl (by decide) rfl ?_
            refine x_iinc (pc := 42) (v := x4 + 1) (L2 := [(4, xI (x4 + 1)), (3, xI (x3)), (0, xR 32 (some (x0))), (1, xI (x1)), (2, xI (x2))]) C (d_M_openings 25 rfl) 4 rfl rfl (by decide) rfl ?_
            refine x_goto (pc := 45) (tgt := 5) C (d_M_openings 26 rfl) (by decide) ?_
            exact x_sub [2, 3, 4, 1, 0] rfl (ih _ _ _ _ _ _ h)
          · rw [if_pos c5] at h
            refine x_aload_n (pc := 23) C (d_M_openings 13 rfl) rfl 0 rfl ?_
            refine x_getR (pc := 24) (t := 39) C fl_M_29 rfl rfl (d_M_openings 14 rfl) ?_
            refine x_iload (pc := 27) C (d_M_openings 15 rfl) 4 rfl ?_
            cases c7 : st.2.2.1 32 x0 7 with
            | none => rw [c7] at h; cases h
            | some i6 =>
              rw [c7] at h
              dsimp only at h
              by_cases b8 : x_in x4 20
              · rw [if_pos b8] at h
                refine x_iald (pc := 29) C ar_39 b8 (d_M_openings 16 rfl) ?_
                refine x_iload_n (pc := 30) C (d_M_openings 17 rfl) rfl 2 rfl ?_
                refine x_icmp_ne (pc := 31) (tgt := 40) C (d_M_openings 18 rfl) (by decide) (fun c9 => ?_) (fun c9 => ?_)
                · rw [if_neg c9] at h
                  refine x_iload_n (pc := 40) C (d_M_openings 23 rfl) rfl 3 rfl ?_
                  refine x_istore_n (pc := 41) (L2 := [(3, xI (x3)), (0, xR 32 (some (x0))), (1, xI (x1)), (2, xI (x2)), (4, xI (x4))]) C (d_M_openings 24 rfl) rfl (by decide) rfl ?_
                  refine x_iinc (pc := 42) (v := x4 + 1) (L2 := [(4, xI (x4 + 1)), (3, xI (x3)), (0, xR 32 (some (x0))), (1, xI (x1)), (2, xI (x2))]) C (d_M_openings 25 rfl) 4 rfl rfl (by decide) rfl ?_
                  refine x_goto (pc := 45) (tgt := 5) C (d_M_openings 26 rfl) (by decide) ?_
                  exact x_sub [2, 3, 4, 1, 0] rfl (ih _ _ _ _ _ _ h)
                · rw [if_pos c9] at h
                  refine x_iload_n (pc := 34) C (d_M_openings 19 rfl) rfl 3 rfl ?_
                  refine x_iconst (pc := 35) (v := 1) C (by decide) (d_M_openings 20 rfl) ?_
                  refine x_iadd (pc := 36) C (d_M_openings 21 rfl) ?_
                  refine x_goto (pc := 37) (tgt := 41) C (d_M_openings 22 rfl) (by decide) ?_
                  refine x_istore_n (pc := 41) (L2 := [(3, xI (x3 + (1 : Int32))), (0, xR 32 (some (x0))), (1, xI (x1)), (2, xI (x2)), (4, xI (x4))]) C (d_M_openings 24 rfl) rfl (by decide) rfl ?_
                  refine x_iinc (pc := 42) (v := x4 + 1) (L2 := [(4, xI (x4 + 1)), (3, xI (x3 + (1 : Int32))), (0, xR 32 (some (x0))), (1, xI (x1)), (2, xI (x2))]) C (d_M_openings 25 rfl) 4 rfl rfl (by decide) rfl ?_
                  refine x_goto (pc := 45) (tgt := 5) C (d_M_openings 26 rfl) (by decide) ?_
                  exact x_sub [2, 3, 4, 1, 0] rfl (ih _ _ _ _ _ _ h)
              · rw [if_neg b8] at h; cases h
        · rw [if_neg b4] at h; cases h
def f_M_openings (x0 : Nat) (x1 : Int32) (x2 : Int32) (st : XS) : Option Int32 :=
  f_M_openings_5 100 x0 x1 x2 0 0 st
set_option maxRecDepth 100000 in
set_option maxHeartbeats 4000000 in
theorem m_M_openings (l : Launch) {x0 : Nat} {x1 : Int32} {x2 : Int32} {st : XS} {r : Int32} (h : f_M_openings x0 x1 x2 st = some r) : x_M l M_M_openings rm_M_openings [xR 32 (some (x0)), xI (x1), xI (x2)] st (.inl (some (xI r))) st 0 0 := by
  refine x_enter (Nat.le_of_ble_eq_true rfl) ?_
  intro p e s m below meth c D cA g args B C
  have hret := B.2.2.2.2.2.2.2.2.1
  have hmn := B.2.2.2.2.2.2.2.1
  have hex := B.2.2.2.2.2.2.2.2.2.1
  unfold f_M_openings at h
  refine x_iconst (pc := 0) (v := 0) C (by decide) (d_M_openings 0 rfl) ?_
  refine x_istore_n (pc := 1) (L2 := [(3, xI (0)), (0, xR 32 (some (x0))), (1, xI (x1)), (2, xI (x2))]) C (d_M_openings 1 rfl) rfl (by decide) rfl ?_
  refine x_iconst (pc := 2) (v := 0) C (by decide) (d_M_openings 2 rfl) ?_
  refine x_istore (pc := 3) (L2 := [(4, xI (0)), (3, xI (0)), (0, xR 32 (some (x0))), (1, xI (x1)), (2, xI (x2))]) C (d_M_openings 3 rfl) (by decide) rfl ?_
  exact x_sub [2, 3, 4, 1, 0] rfl (v_M_openings_5 C hret hmn hex 100 _ _ _ _ _ _ h)
def f_M_sweep_90 (k49 : Nat → Int32 → XS → Option (Unit × XS)) (x0 : Nat) (x1 : Int32) (s0 : Int32) (s1 : Int32) (s2 : Option Nat) (st : XS) : Option (Unit × XS) :=
  match s2 with
  | none => none
  | some i1 =>
    if x_in s1 6 then
      match (xsI st 44 i1 s1.toNatClampNeg (s0 &&& 1)).2.2.1 32 x0 13 with
      | none => none
      | some i4 =>
        if x_in x1 6 then
          if ((xsI st 44 i1 s1.toNatClampNeg (s0 &&& 1)).1 45 i4 x1.toNatClampNeg) = 0 then
            if x_in x1 6 then
              k49 x0 (x1 + 1) (xsI (xsI st 44 i1 s1.toNatClampNeg (s0 &&& 1)) 45 i4 x1.toNatClampNeg ((0 : Int32) &&& 1))
            else none
          else
            match (xsI st 44 i1 s1.toNatClampNeg (s0 &&& 1)).2.2.1 32 x0 14 with
            | none => none
            | some i9 =>
              if x_in x1 6 then
                if 0 < ((xsI st 44 i1 s1.toNatClampNeg (s0 &&& 1)).1 46 i9 x1.toNatClampNeg) then
                  if x_in x1 6 then
                    k49 x0 (x1 + 1) (xsI (xsI st 44 i1 s1.toNatClampNeg (s0 &&& 1)) 45 i4 x1.toNatClampNeg ((1 : Int32) &&& 1))
                  else none
                else
                  match f_M_openings x0 3 x1 (xsI st 44 i1 s1.toNatClampNeg (s0 &&& 1)) with
                  | none => none
                  | some v15 =>
                    if v15 ≤ 0 then
                      if x_in x1 6 then
                        k49 x0 (x1 + 1) (xsI (xsI st 44 i1 s1.toNatClampNeg (s0 &&& 1)) 45 i4 x1.toNatClampNeg ((0 : Int32) &&& 1))
                      else none
                    else
                      if x_in x1 6 then
                        k49 x0 (x1 + 1) (xsI (xsI st 44 i1 s1.toNatClampNeg (s0 &&& 1)) 45 i4 x1.toNatClampNeg ((1 : Int32) &&& 1))
                      else none
              else none
        else none
    else none
set_option maxRecDepth 100000 in
set_option maxHeartbeats 4000000 in
theorem v_M_sweep_90 {p : Program} {l : Launch} {e : Env} {s : State} {m : MethodId} {args : Array Value} {below : List Frame} {meth : Method} {c : Code} {D : va_G} {cA : Nat → ClassId} {g0 : Nat → Nat → Nat} {n0 : Nat → Nat} {r : Unit} {st2 : XS} (C : x_C p e rm_M_sweep s m args meth c D cA (x_A g0 n0 s.heap.size) M_M_sweep.2.1 M_M_sweep.1 M_M_sweep.2.2.1) (hret : meth.sig.returnType = M_M_sweep.2.2.2.1) (hmn : meth.name = M_M_sweep.2.2.2.2.2) (hex : c.exceptionTable.toList.map (fun h => (h.startPc, h.endPc, h.handlerPc, h.catchType)) = M_M_sweep.2.2.2.2.1) {k49 : Nat → Int32 → XS → Option (Unit × XS)} (hk49 : ∀ (x0 : Nat) (x1 : Int32) (st : XS), k49 x0 x1 st = some (r, st2) → x_V p l e rm_M_sweep s m args below meth c D cA (x_A g0 n0 s.heap.size) M_M_sweep.2.2.1 g0 n0 (x_MQ D cA g0 n0 below s 0 0 (.inl (none)) st2) 49 [(0, xR 32 (some (x0))), (1, xI (x1))] [] st 0 0) (x0 : Nat) (x1 : Int32) (s0 : Int32) (s1 : Int32) (s2 : Option Nat) (st : XS) (h : f_M_sweep_90 k49 x0 x1 s0 s1 s2 st = some (r, st2)) : x_V p l e rm_M_sweep s m args below meth c D cA (x_A g0 n0 s.heap.size) M_M_sweep.2.2.1 g0 n0 (x_MQ D cA g0 n0 below s 0 0 (.inl (none)) st2) 90 [(0, xR 32 (some (x0))), (1, xI (x1))] [xI (s0), xI (s1), xR 44 (s2)] st 0 0 := by
  unfold f_M_sweep_90 at h
  cases c2 : s2 with
  | none => rw [c2] at h; cases h
  | some i1 =>
    rw [c2] at h
    dsimp only at h
    by_cases b3 : x_in s1 6
    · rw [if_pos b3] at h
      refine x_zast (pc := 90) C ar_44 b3 (d_M_sweep 52 rfl) ?_
      refine x_aload_n (pc := 91) C (d_M_sweep 53 rfl) rfl 0 rfl ?_
      refine x_getR (pc := 92) (t := 45) C fl_M_48 rfl rfl (d_M_sweep 54 rfl) ?_
      refine x_iload_n (pc := 95) C (d_M_sweep 55 rfl) rfl 1 rfl ?_
      refine x_aload_n (pc := 96) C (d_M_sweep 56 rfl) rfl 0 rfl ?_
      refine x_getR (pc := 97) (t := 45) C fl_M_48 rfl rfl (d_M_sweep 57 rfl) ?_
      refine x_iload_n (pc := 100) C (d_M_sweep 58 rfl) rfl 1 rfl ?_
      cases c5 : (xsI st 44 i1 s1.toNatClampNeg (s0 &&& 1)).2.2.1 32 x0 13 with
      | none => rw [c5] at h; cases h
      | some i4 =>
        rw [c5] at h
        dsimp only at h
        by_cases b6 : x_in x1 6
        · rw [if_pos b6] at h
          refine x_zald (pc := 101) C ar_45 b6 (d_M_sweep 59 rfl) ?_
          refine x_if_eq (pc := 102) (tgt := 127) C (d_M_sweep 60 rfl) (by decide) (fun c7 => ?_) (fun c7 => ?_)
          · rw [if_pos c7] at h
            refine x_iconst (pc := 127) (v := 0) C (by decide) (d_M_sweep 73 rfl) ?_
            by_cases b8 : x_in x1 6
            · rw [if_pos b8] at h
              refine x_zast (pc := 128) C ar_45 b8 (d_M_sweep 74 rfl) ?_
              refine x_iinc (pc := 129) (v := x1 + 1) (L2 := [(1, xI (x1 + 1)), (0, xR 32 (some (x0)))]) C (d_M_sweep 75 rfl) 1 rfl rfl (by decide) rfl ?_
              refine x_goto (pc := 132) (tgt := 49) C (d_M_sweep 76 rfl) (by decide) ?_
              exact x_sub [1, 0] rfl (hk49 _ _ _ h)
            · rw [if_neg b8] at h; cases h
          · rw [if_neg c7] at h
            refine x_aload_n (pc := 105) C (d_M_sweep 61 rfl) rfl 0 rfl ?_
            refine x_getR (pc := 106) (t := 46) C fl_M_51 rfl rfl (d_M_sweep 62 rfl) ?_
            refine x_iload_n (pc := 109) C (d_M_sweep 63 rfl) rfl 1 rfl ?_
            cases c10 : (xsI st 44 i1 s1.toNatClampNeg (s0 &&& 1)).2.2.1 32 x0 14 with
            | none => rw [c10] at h; cases h
            | some i9 =>
              rw [c10] at h
              dsimp only at h
              by_cases b11 : x_in x1 6
              · rw [if_pos b11] at h
                refine x_iald (pc := 110) C ar_46 b11 (d_M_sweep 64 rfl) ?_
                refine x_if_gt (pc := 111) (tgt := 123) C (d_M_sweep 65 rfl) (by decide) (fun c12 => ?_) (fun c12 => ?_)
                · rw [if_pos c12] at h
                  refine x_iconst (pc := 123) (v := 1) C (by decide) (d_M_sweep 71 rfl) ?_
                  refine x_goto (pc := 124) (tgt := 128) C (d_M_sweep 72 rfl) (by decide) ?_
                  by_cases b13 : x_in x1 6
                  · rw [if_pos b13] at h
                    refine x_zast (pc := 128) C ar_45 b13 (d_M_sweep 74 rfl) ?_
                    refine x_iinc (pc := 129) (v := x1 + 1) (L2 := [(1, xI (x1 + 1)), (0, xR 32 (some (x0)))]) C (d_M_sweep 75 rfl) 1 rfl rfl (by decide) rfl ?_
                    refine x_goto (pc := 132) (tgt := 49) C (d_M_sweep 76 rfl) (by decide) ?_
                    exact x_sub [1, 0] rfl (hk49 _ _ _ h)
                  · rw [if_neg b13] at h; cases h
                · rw [if_neg c12] at h
                  refine x_aload_n (pc := 114) C (d_M_sweep 66 rfl) rfl 0 rfl ?_
                  refine x_iconst (pc := 115) (v := 3) C (by decide) (d_M_sweep 67 rfl) ?_
                  refine x_iload_n (pc := 116) C (d_M_sweep 68 rfl) rfl 1 rfl ?_
                  cases c14 : f_M_openings x0 3 x1 (xsI st 44 i1 s1.toNatClampNeg (s0 &&& 1)) with
                  | none => rw [c14] at h; cases h
                  | some v15 =>
                    rw [c14] at h
                    dsimp only at h
                    refine x_callV (mc := 0) (ms := 0) (pc := 117) (bL := [xI (3), xI (x1)]) (K := [xI (x1), xR 45 (some (i4))]) C cs_M_78 (m_M_openings l c14 : x_M l _ _ _ _ (.inl (some (xI v15))) _ 0 0) (by decide) rfl (Nat.le_of_ble_eq_true rfl) (d_M_sweep 69 rfl) ?_
                    refine x_if_le (pc := 120) (tgt := 127) C (d_M_sweep 70 rfl) (by decide) (fun c16 => ?_) (fun c16 => ?_)
                    · rw [if_pos c16] at h
                      refine x_iconst (pc := 127) (v := 0) C (by decide) (d_M_sweep 73 rfl) ?_
                      by_cases b17 : x_in x1 6
                      · rw [if_pos b17] at h
                        refine x_zast (pc := 128) C ar_45 b17 (d_M_sweep 74 rfl) ?_
                        refine x_iinc (pc := 129) (v := x1 + 1) (L2 := [(1, xI (x1 + 1)), (0, xR 32 (some (x0)))]) C (d_M_sweep 75 rfl) 1 rfl rfl (by decide) rfl ?_
                        refine x_goto (pc := 132) (tgt := 49) C (d_M_sweep 76 rfl) (by decide) ?_
                        exact x_sub [1, 0] rfl (hk49 _ _ _ h)
                      · rw [if_neg b17] at h; cases h
                    · rw [if_neg c16] at h
                      refine x_iconst (pc := 123) (v := 1) C (by decide) (d_M_sweep 71 rfl) ?_
                      refine x_goto (pc := 124) (tgt := 128) C (d_M_sweep 72 rfl) (by decide) ?_
                      by_cases b18 : x_in x1 6
                      · rw [if_pos b18] at h
                        refine x_zast (pc := 128) C ar_45 b18 (d_M_sweep 74 rfl) ?_
                        refine x_iinc (pc := 129) (v := x1 + 1) (L2 := [(1, xI (x1 + 1)), (0, xR 32 (some (x0)))]) C (d_M_sweep 75 rfl) 1 rfl rfl (by decide) rfl ?_
                        refine x_goto (pc := 132) (tgt := 49) C (d_M_sweep 76 rfl) (by decide) ?_
                        exact x_sub [1, 0] rfl (hk49 _ _ _ h)
                      · rw [if_neg b18] at h; cases h
              · rw [if_neg b11] at h; cases h
        · rw [if_neg b6] at h; cases h
    · rw [if_neg b3] at h; cases h
def f_M_sweep_49  : Nat → Nat → Int32 → XS → Option (Unit × XS)
  | 0, _, _, _ => none
  | n + 1, x0, x1, st =>
    if 6 ≤ x1 then
      some ((), st)
    else
      match st.2.2.1 32 x0 12 with
      | none => none
      | some i21 =>
        if x_in x1 6 then
          if (st.1 44 i21 x1.toNatClampNeg) = 0 then
            f_M_sweep_90 (fun a0 a1 a2 => f_M_sweep_49 n a0 a1 a2) x0 x1 0 x1 (some (i21)) st
          else
            match f_M_openings x0 1 x1 st with
            | none => none
            | some v26 =>
              match f_M_openings x0 2 x1 st with
              | none => none
              | some v28 =>
                if (v26 + v28) ≤ 0 then
                  f_M_sweep_90 (fun a0 a1 a2 => f_M_sweep_49 n a0 a1 a2) x0 x1 0 x1 (some (i21)) st
                else
                  f_M_sweep_90 (fun a0 a1 a2 => f_M_sweep_49 n a0 a1 a2) x0 x1 1 x1 (some (i21)) st
        else none
set_option maxRecDepth 100000 in
set_option maxHeartbeats 4000000 in
theorem v_M_sweep_49 {p : Program} {l : Launch} {e : Env} {s : State} {m : MethodId} {args : Array Value} {below : List Frame} {meth : Method} {c : Code} {D : va_G} {cA : Nat → ClassId} {g0 : Nat → Nat → Nat} {n0 : Nat → Nat} {r : Unit} {st2 : XS} (C : x_C p e rm_M_sweep s m args meth c D cA (x_A g0 n0 s.heap.size) M_M_sweep.2.1 M_M_sweep.1 M_M_sweep.2.2.1) (hret : meth.sig.returnType = M_M_sweep.2.2.2.1) (hmn : meth.name = M_M_sweep.2.2.2.2.2) (hex : c.exceptionTable.toList.map (fun h => (h.startPc, h.endPc, h.handlerPc, h.catchType)) = M_M_sweep.2.2.2.2.1)  : ∀ (n : Nat) (x0 : Nat) (x1 : Int32) (st : XS), f_M_sweep_49 n x0 x1 st = some (r, st2) → x_V p l e rm_M_sweep s m args below meth c D cA (x_A g0 n0 s.heap.size) M_M_sweep.2.2.1 g0 n0 (x_MQ D cA g0 n0 below s 0 0 (.inl (none)) st2) 49 [(0, xR 32 (some (x0))), (1, xI (x1))] [] st 0 0 := by
  intro n
  induction n with
  | zero => intro x0 x1 st h; cases h
  | succ n ih =>
    intro x0 x1 st h
    rw [f_M_sweep_49.eq_def] at h
    dsimp only at h
    refine x_iload_n (pc := 49) C (d_M_sweep 28 rfl) rfl 1 rfl ?_
    refine x_bipush (pc := 50) (v := 6) C (by decide) (d_M_sweep 29 rfl) ?_
    refine x_icmp_ge (pc := 52) (tgt := 135) C (d_M_sweep 30 rfl) (by decide) (fun c20 => ?_) (fun c20 => ?_)
    · rw [if_pos c20] at h
      cases h
      exact x_vret (pc := 135) C hret (Nat.zero_le _) (Nat.zero_le _) (d_M_sweep 77 rfl)
    · rw [if_neg c20] at h
      refine x_aload_n (pc := 55) C (d_M_sweep 31 rfl) rfl 0 rfl ?_
      refine x_getR (pc := 56) (t := 44) C fl_M_44 rfl rfl (d_M_sweep 32 rfl) ?_
      refine x_iload_n (pc := 59) C (d_M_sweep 33 rfl) rfl 1 rfl ?_
      refine x_aload_n (pc := 60) C (d_M_sweep 34 rfl) rfl 0 rfl ?_
      refine x_getR (pc := 61) (t := 44) C fl_M_44 rfl rfl (d_M_sweep 35 rfl) ?_
      refine x_iload_n (pc := 64) C (d_M_sweep 36 rfl) rfl 1 rfl ?_
      cases c22 : st.2.2.1 32 x0 12 with
      | none => rw [c22] at h; cases h
      | some i21 =>
        rw [c22] at h
        dsimp only at h
        by_cases b23 : x_in x1 6
        · rw [if_pos b23] at h
          refine x_zald (pc := 65) C ar_44 b23 (d_M_sweep 37 rfl) ?_
          refine x_if_eq (pc := 66) (tgt := 89) C (d_M_sweep 38 rfl) (by decide) (fun c24 => ?_) (fun c24 => ?_)
          · rw [if_pos c24] at h
            refine x_iconst (pc := 89) (v := 0) C (by decide) (d_M_sweep 51 rfl) ?_
            exact x_sub [0, 1] rfl (v_M_sweep_90 C hret hmn hex (fun a0 a1 a2 hh => ih a0 a1 a2 hh) _ _ _ _ _ _ h)
          · rw [if_neg c24] at h
            refine x_aload_n (pc := 69) C (d_M_sweep 39 rfl) rfl 0 rfl ?_
            refine x_iconst (pc := 70) (v := 1) C (by decide) (d_M_sweep 40 rfl) ?_
            refine x_iload_n (pc := 71) C (d_M_sweep 41 rfl) rfl 1 rfl ?_
            cases c25 : f_M_openings x0 1 x1 st with
            | none => rw [c25] at h; cases h
            | some v26 =>
              rw [c25] at h
              dsimp only at h
              refine x_callV (mc := 0) (ms := 0) (pc := 72) (bL := [xI (1), xI (x1)]) (K := [xI (x1), xR 44 (some (i21))]) C cs_M_78 (m_M_openings l c25 : x_M l _ _ _ _ (.inl (some (xI v26))) _ 0 0) (by decide) rfl (Nat.le_of_ble_eq_true rfl) (d_M_sweep 42 rfl) ?_
              refine x_aload_n (pc := 75) C (d_M_sweep 43 rfl) rfl 0 rfl ?_
              refine x_iconst (pc := 76) (v := 2) C (by decide) (d_M_sweep 44 rfl) ?_
              refine x_iload_n (pc := 77) C (d_M_sweep 45 rfl) rfl 1 rfl ?_
              cases c27 : f_M_openings x0 2 x1 st with
              | none => rw [c27] at h; cases h
              | some v28 =>
                rw [c27] at h
                dsimp only at h
                refine x_callV (mc := 0) (ms := 0) (pc := 78) (bL := [xI (2), xI (x1)]) (K := [xI (v26), xI (x1), xR 44 (some (i21))]) C cs_M_78 (m_M_openings l c27 : x_M l _ _ _ _ (.inl (some (xI v28))) _ 0 0) (by decide) rfl (Nat.le_of_ble_eq_true rfl) (d_M_sweep 46 rfl) ?_
                refine x_iadd (pc := 81) C (d_M_sweep 47 rfl) ?_
                refine x_if_le (pc := 82) (tgt := 89) C (d_M_sweep 48 rfl) (by decide) (fun c29 => ?_) (fun c29 => ?_)
                · rw [if_pos c29] at h
                  refine x_iconst (pc := 89) (v := 0) C (by decide) (d_M_sweep 51 rfl) ?_
                  exact x_sub [0, 1] rfl (v_M_sweep_90 C hret hmn hex (fun a0 a1 a2 hh => ih a0 a1 a2 hh) _ _ _ _ _ _ h)
                · rw [if_neg c29] at h
                  refine x_iconst (pc := 85) (v := 1) C (by decide) (d_M_sweep 49 rfl) ?_
                  refine x_goto (pc := 86) (tgt := 90) C (d_M_sweep 50 rfl) (by decide) ?_
                  exact x_sub [0, 1] rfl (v_M_sweep_90 C hret hmn hex (fun a0 a1 a2 hh => ih a0 a1 a2 hh) _ _ _ _ _ _ h)
        · rw [if_neg b23] at h; cases h
def f_M_sweep_2  : Nat → Nat → Int32 → XS → Option (Unit × XS)
  | 0, _, _, _ => none
  | n + 1, x0, x1, st =>
    if 20 ≤ x1 then
      f_M_sweep_49 100 x0 0 st
    else
      match st.2.2.1 32 x0 6 with
      | none => none
      | some i33 =>
        if x_in x1 20 then
          if (st.1 38 i33 x1.toNatClampNeg) ≤ 0 then
            if x_in x1 20 then
              f_M_sweep_2 n x0 (x1 + 1) (xsI st 38 i33 x1.toNatClampNeg 0)
            else none
          else
            match f_M_holders x0 x1 st with
            | none => none
            | some v39 =>
              if v39 ≤ 0 then
                if x_in x1 20 then
                  f_M_sweep_2 n x0 (x1 + 1) (xsI st 38 i33 x1.toNatClampNeg 0)
                else none
              else
                if x_in x1 20 then
                  if x_in x1 20 then
                    f_M_sweep_2 n x0 (x1 + 1) (xsI st 38 i33 x1.toNatClampNeg (st.1 38 i33 x1.toNatClampNeg))
                  else none
                else none
        else none
set_option maxRecDepth 100000 in
set_option maxHeartbeats 4000000 in
theorem v_M_sweep_2 {p : Program} {l : Launch} {e : Env} {s : State} {m : MethodId} {args : Array Value} {below : List Frame} {meth : Method} {c : Code} {D : va_G} {cA : Nat → ClassId} {g0 : Nat → Nat → Nat} {n0 : Nat → Nat} {r : Unit} {st2 : XS} (C : x_C p e rm_M_sweep s m args meth c D cA (x_A g0 n0 s.heap.size) M_M_sweep.2.1 M_M_sweep.1 M_M_sweep.2.2.1) (hret : meth.sig.returnType = M_M_sweep.2.2.2.1) (hmn : meth.name = M_M_sweep.2.2.2.2.2) (hex : c.exceptionTable.toList.map (fun h => (h.startPc, h.endPc, h.handlerPc, h.catchType)) = M_M_sweep.2.2.2.2.1)  : ∀ (n : Nat) (x0 : Nat) (x1 : Int32) (st : XS), f_M_sweep_2 n x0 x1 st = some (r, st2) → x_V p l e rm_M_sweep s m args below meth c D cA (x_A g0 n0 s.heap.size) M_M_sweep.2.2.1 g0 n0 (x_MQ D cA g0 n0 below s 0 0 (.inl (none)) st2) 2 [(0, xR 32 (some (x0))), (1, xI (x1))] [] st 0 0 := by
  intro n
  induction n with
  | zero => intro x0 x1 st h; cases h
  | succ n ih =>
    intro x0 x1 st h
    rw [f_M_sweep_2.eq_def] at h
    dsimp only at h
    refine x_iload_n (pc := 2) C (d_M_sweep 2 rfl) rfl 1 rfl ?_
    refine x_bipush (pc := 3) (v := 20) C (by decide) (d_M_sweep 3 rfl) ?_
    refine x_icmp_ge (pc := 5) (tgt := 47) C (d_M_sweep 4 rfl) (by decide) (fun c32 => ?_) (fun c32 => ?_)
    · rw [if_pos c32] at h
      refine x_iconst (pc := 47) (v := 0) C (by decide) (d_M_sweep 26 rfl) ?_
      refine x_istore_n (pc := 48) (L2 := [(1, xI (0)), (0, xR 32 (some (x0)))]) C (d_M_sweep 27 rfl) rfl (by decide) rfl ?_
      exact x_sub [1, 0] rfl (v_M_sweep_49 C hret hmn hex 100 _ _ _ h)
    · rw [if_neg c32] at h
      refine x_aload_n (pc := 8) C (d_M_sweep 5 rfl) rfl 0 rfl ?_
      refine x_getR (pc := 9) (t := 38) C fl_M_26 rfl rfl (d_M_sweep 6 rfl) ?_
      refine x_iload_n (pc := 12) C (d_M_sweep 7 rfl) rfl 1 rfl ?_
      refine x_aload_n (pc := 13) C (d_M_sweep 8 rfl) rfl 0 rfl ?_
      refine x_getR (pc := 14) (t := 38) C fl_M_26 rfl rfl (d_M_sweep 9 rfl) ?_
      refine x_iload_n (pc := 17) C (d_M_sweep 10 rfl) rfl 1 rfl ?_
      cases c34 : st.2.2.1 32 x0 6 with
      | none => rw [c34] at h; cases h
      | some i33 =>
        rw [c34] at h
        dsimp only at h
        by_cases b35 : x_in x1 20
        · rw [if_pos b35] at h
          refine x_iald (pc := 18) C ar_38 b35 (d_M_sweep 11 rfl) ?_
          refine x_if_le (pc := 19) (tgt := 39) C (d_M_sweep 12 rfl) (by decide) (fun c36 => ?_) (fun c36 => ?_)
          · rw [if_pos c36] at h
            refine x_iconst (pc := 39) (v := 0) C (by decide) (d_M_sweep 22 rfl) ?_
            by_cases b37 : x_in x1 20
            · rw [if_pos b37] at h
              refine x_iast (pc := 40) C ar_38 b37 (d_M_sweep 23 rfl) ?_
              refine x_iinc (pc := 41) (v := x1 + 1) (L2 := [(1, xI (x1 + 1)), (0, xR 32 (some (x0)))]) C (d_M_sweep 24 rfl) 1 rfl rfl (by decide) rfl ?_
              refine x_goto (pc := 44) (tgt := 2) C (d_M_sweep 25 rfl) (by decide) ?_
              exact x_sub [1, 0] rfl (ih _ _ _ h)
            · rw [if_neg b37] at h; cases h
          · rw [if_neg c36] at h
            refine x_aload_n (pc := 22) C (d_M_sweep 13 rfl) rfl 0 rfl ?_
            refine x_iload_n (pc := 23) C (d_M_sweep 14 rfl) rfl 1 rfl ?_
            cases c38 : f_M_holders x0 x1 st with
            | none => rw [c38] at h; cases h
            | some v39 =>
              rw [c38] at h
              dsimp only at h
              refine x_callV (mc := 0) (ms := 0) (pc := 24) (bL := [xI (x1)]) (K := [xI (x1), xR 38 (some (i33))]) C cs_M_74 (m_M_holders l c38 : x_M l _ _ _ _ (.inl (some (xI v39))) _ 0 0) (by decide) rfl (Nat.le_of_ble_eq_true rfl) (d_M_sweep 15 rfl) ?_
              refine x_if_le (pc := 27) (tgt := 39) C (d_M_sweep 16 rfl) (by decide) (fun c40 => ?_) (fun c40 => ?_)
              · rw [if_pos c40] at h
                refine x_iconst (pc := 39) (v := 0) C (by decide) (d_M_sweep 22 rfl) ?_
                by_cases b41 : x_in x1 20
                · rw [if_pos b41] at h
                  refine x_iast (pc := 40) C ar_38 b41 (d_M_sweep 23 rfl) ?_
                  refine x_iinc (pc := 41) (v := x1 + 1) (L2 := [(1, xI (x1 + 1)), (0, xR 32 (some (x0)))]) C (d_M_sweep 24 rfl) 1 rfl rfl (by decide) rfl ?_
                  refine x_goto (pc := 44) (tgt := 2) C (d_M_sweep 25 rfl) (by decide) ?_
                  exact x_sub [1, 0] rfl (ih _ _ _ h)
                · rw [if_neg b41] at h; cases h
              · rw [if_neg c40] at h
                refine x_aload_n (pc := 30) C (d_M_sweep 17 rfl) rfl 0 rfl ?_
                refine x_getR (pc := 31) (t := 38) C fl_M_26 rfl rfl (d_M_sweep 18 rfl) ?_
                rw [c34]
                refine x_iload_n (pc := 34) C (d_M_sweep 19 rfl) rfl 1 rfl ?_
                by_cases b42 : x_in x1 20
                · rw [if_pos b42] at h
                  refine x_iald (pc := 35) C ar_38 b42 (d_M_sweep 20 rfl) ?_
                  refine x_goto (pc := 36) (tgt := 40) C (d_M_sweep 21 rfl) (by decide) ?_
                  by_cases b43 : x_in x1 20
                  · rw [if_pos b43] at h
                    refine x_iast (pc := 40) C ar_38 b43 (d_M_sweep 23 rfl) ?_
                    refine x_iinc (pc := 41) (v := x1 + 1) (L2 := [(1, xI (x1 + 1)), (0, xR 32 (some (x0)))]) C (d_M_sweep 24 rfl) 1 rfl rfl (by decide) rfl ?_
                    refine x_goto (pc := 44) (tgt := 2) C (d_M_sweep 25 rfl) (by decide) ?_
                    exact x_sub [1, 0] rfl (ih _ _ _ h)
                  · rw [if_neg b43] at h; cases h
                · rw [if_neg b42] at h; cases h
        · rw [if_neg b35] at h; cases h
def f_M_sweep (x0 : Nat) (st : XS) : Option (Unit × XS) :=
  f_M_sweep_2 100 x0 0 st
set_option maxRecDepth 100000 in
set_option maxHeartbeats 4000000 in
theorem m_M_sweep (l : Launch) {x0 : Nat} {st : XS} {r : Unit} {st2 : XS} (h : f_M_sweep x0 st = some (r, st2)) : x_M l M_M_sweep rm_M_sweep [xR 32 (some (x0))] st (.inl (none)) st2 0 0 := by
  refine x_enter (Nat.le_of_ble_eq_true rfl) ?_
  intro p e s m below meth c D cA g args B C
  have hret := B.2.2.2.2.2.2.2.2.1
  have hmn := B.2.2.2.2.2.2.2.1
  have hex := B.2.2.2.2.2.2.2.2.2.1
  unfold f_M_sweep at h
  refine x_iconst (pc := 0) (v := 0) C (by decide) (d_M_sweep 0 rfl) ?_
  refine x_istore_n (pc := 1) (L2 := [(1, xI (0)), (0, xR 32 (some (x0)))]) C (d_M_sweep 1 rfl) rfl (by decide) rfl ?_
  exact x_sub [1, 0] rfl (v_M_sweep_2 C hret hmn hex 100 _ _ _ h)
def f_M_waits (x0 : Nat) (x1 : Int32) (x2 : Int32) (x3 : Int32) (st : XS) : Option Int32 :=
  if x3 = 0 then
    some (0)
  else
    match st.2.2.1 32 x0 6 with
    | none => none
    | some i2 =>
      if x_in x1 20 then
        match st.2.2.1 32 x0 7 with
        | none => none
        | some i5 =>
          if x_in x1 20 then
            if (st.1 38 i2 x1.toNatClampNeg) = 4 then
              if x2 = 0 then
                some (0)
              else
                if (st.1 32 x0 17) = 0 then
                  some (1)
                else
                  some (0)
            else
              if (st.1 38 i2 x1.toNatClampNeg) = 1 then
                if x2 = 0 then
                  some (0)
                else
                  match st.2.2.1 32 x0 10 with
                  | none => none
                  | some i21 =>
                    if x_in (st.1 39 i5 x1.toNatClampNeg) 6 then
                      if (st.1 42 i21 (st.1 39 i5 x1.toNatClampNeg).toNatClampNeg) = 0 then
                        match f_M_openings x0 2 (st.1 39 i5 x1.toNatClampNeg) st with
                        | none => none
                        | some v26 =>
                          if v26 ≤ 0 then
                            some (0)
                          else
                            some (1)
                      else
                        some (0)
                    else none
              else
                if (st.1 38 i2 x1.toNatClampNeg) = 2 then
                  if x2 = 0 then
                    match f_M_openings x0 1 (st.1 39 i5 x1.toNatClampNeg) st with
                    | none => none
                    | some v13 =>
                      if v13 ≤ 0 then
                        some (0)
                      else
                        match st.2.2.1 32 x0 10 with
                        | none => none
                        | some i15 =>
                          if x_in (st.1 39 i5 x1.toNatClampNeg) 6 then
                            if ((st.1 42 i15 (st.1 39 i5 x1.toNatClampNeg).toNatClampNeg) + x3) ≤ 32 then
                              some (0)
                            else
                              some (1)
                          else none
                  else
                    some (0)
                else
                  some (0)
          else none
      else none
set_option maxRecDepth 100000 in
set_option maxHeartbeats 4000000 in
theorem m_M_waits (l : Launch) {x0 : Nat} {x1 : Int32} {x2 : Int32} {x3 : Int32} {st : XS} {r : Int32} (h : f_M_waits x0 x1 x2 x3 st = some r) : x_M l M_M_waits rm_M_waits [xR 32 (some (x0)), xI (x1), xI (x2), xI (x3)] st (.inl (some (xI r))) st 0 0 := by
  refine x_enter (Nat.le_of_ble_eq_true rfl) ?_
  intro p e s m below meth c D cA g args B C
  have hret := B.2.2.2.2.2.2.2.2.1
  have hmn := B.2.2.2.2.2.2.2.1
  have hex := B.2.2.2.2.2.2.2.2.2.1
  unfold f_M_waits at h
  refine x_iload_n (pc := 0) C (d_M_waits 0 rfl) rfl 3 rfl ?_
  refine x_if_ne (pc := 1) (tgt := 6) C (d_M_waits 1 rfl) (by decide) (fun c1 => ?_) (fun c1 => ?_)
  · rw [if_neg c1] at h
    refine x_aload_n (pc := 6) C (d_M_waits 4 rfl) rfl 0 rfl ?_
    refine x_getR (pc := 7) (t := 38) C fl_M_26 rfl rfl (d_M_waits 5 rfl) ?_
    refine x_iload_n (pc := 10) C (d_M_waits 6 rfl) rfl 1 rfl ?_
    cases c3 : st.2.2.1 32 x0 6 with
    | none => rw [c3] at h; cases h
    | some i2 =>
      rw [c3] at h
      dsimp only at h
      by_cases b4 : x_in x1 20
      · rw [if_pos b4] at h
        refine x_iald (pc := 11) C ar_38 b4 (d_M_waits 7 rfl) ?_
        refine x_istore (pc := 12) (L2 := [(4, xI (st.1 38 i2 x1.toNatClampNeg)), (0, xR 32 (some (x0))), (1, xI (x1)), (2, xI (x2)), (3, xI (x3))]) C (d_M_waits 8 rfl) (by decide) rfl ?_
        refine x_aload_n (pc := 14) C (d_M_waits 9 rfl) rfl 1 rfl ?_
        refine x_getR (pc := 15) (t := 39) C fl_M_29 rfl rfl (d_M_waits 10 rfl) ?_
        refine x_iload_n (pc := 18) C (d_M_waits 11 rfl) rfl 2 rfl ?_
        cases c6 : st.2.2.1 32 x0 7 with
        | none => rw [c6] at h; cases h
        | some i5 =>
          rw [c6] at h
          dsimp only at h
          by_cases b7 : x_in x1 20
          · rw [if_pos b7] at h
            refine x_iald (pc := 19) C ar_39 b7 (d_M_waits 12 rfl) ?_
            refine x_istore (pc := 20) (L2 := [(5, xI (st.1 39 i5 x1.toNatClampNeg)), (4, xI (st.1 38 i2 x1.toNatClampNeg)), (0, xR 32 (some (x0))), (1, xI (x1)), (2, xI (x2)), (3, xI (x3))]) C (d_M_waits 13 rfl) (by decide) rfl ?_
            refine x_iload (pc := 22) C (d_M_waits 14 rfl) 1 rfl ?_
            refine x_iconst (pc := 24) (v := 4) C (by decide) (d_M_waits 15 rfl) ?_
            refine x_icmp_ne (pc := 25) (tgt := 45) C (d_M_waits 16 rfl) (by decide) (fun c8 => ?_) (fun c8 => ?_)
            · rw [if_neg c8] at h
              refine x_iload (pc := 45) C (d_M_waits 26 rfl) 1 rfl ?_
              refine x_iconst (pc := 47) (v := 1) C (by decide) (d_M_waits 27 rfl) ?_
              refine x_icmp_ne (pc := 48) (tgt := 81) C (d_M_waits 28 rfl) (by decide) (fun c9 => ?_) (fun c9 => ?_)
              · rw [if_neg c9] at h
                refine x_iload (pc := 81) C (d_M_waits 45 rfl) 1 rfl ?_
                refine x_iconst (pc := 83) (v := 2) C (by decide) (d_M_waits 46 rfl) ?_
                refine x_icmp_ne (pc := 84) (tgt := 119) C (d_M_waits 47 rfl) (by decide) (fun c10 => ?_) (fun c10 => ?_)
                · rw [if_neg c10] at h
                  refine x_iconst (pc := 119) (v := 0) C (by decide) (d_M_waits 65 rfl) ?_
                  cases h
                  exact x_iret (pc := 120) C hret rfl (Nat.zero_le _) (Nat.zero_le _) (d_M_waits 66 rfl)
                · rw [if_pos c10] at h
                  refine x_iload_n (pc := 87) C (d_M_waits 48 rfl) rfl 4 rfl ?_
                  refine x_if_ne (pc := 88) (tgt := 119) C (d_M_waits 49 rfl) (by decide) (fun c11 => ?_) (fun c11 => ?_)
                  · rw [if_neg c11] at h
                    refine x_iconst (pc := 119) (v := 0) C (by decide) (d_M_waits 65 rfl) ?_
                    cases h
                    exact x_iret (pc := 120) C hret rfl (Nat.zero_le _) (Nat.zero_le _) (d_M_waits 66 rfl)
                  · rw [if_pos c11] at h
                    refine x_aload_n (pc := 91) C (d_M_waits 50 rfl) rfl 2 rfl ?_
                    refine x_iconst (pc := 92) (v := 1) C (by decide) (d_M_waits 51 rfl) ?_
                    refine x_iload (pc := 93) C (d_M_waits 52 rfl) 0 rfl ?_
                    cases c12 : f_M_openings x0 1 (st.1 39 i5 x1.toNatClampNeg) st with
                    | none => rw [c12] at h; cases h
                    | some v13 =>
                      rw [c12] at h
                      dsimp only at h
                      refine x_callV (mc := 0) (ms := 0) (pc := 95) (bL := [xI (1), xI (st.1 39 i5 x1.toNatClampNeg)]) (K := []) C cs_M_78 (m_M_openings l c12 : x_M l _ _ _ _ (.inl (some (xI v13))) _ 0 0) (by decide) rfl (Nat.le_of_ble_eq_true rfl) (d_M_waits 53 rfl) ?_
                      refine x_if_le (pc := 98) (tgt := 119) C (d_M_waits 54 rfl) (by decide) (fun c14 => ?_) (fun c14 => ?_)
                      · rw [if_pos c14] at h
                        refine x_iconst (pc := 119) (v := 0) C (by decide) (d_M_waits 65 rfl) ?_
                        cases h
                        exact x_iret (pc := 120) C hret rfl (Nat.zero_le _) (Nat.zero_le _) (d_M_waits 66 rfl)
                      · rw [if_neg c14] at h
                        refine x_aload_n (pc := 101) C (d_M_waits 55 rfl) rfl 2 rfl ?_
                        refine x_getR (pc := 102) (t := 42) C fl_M_38 rfl rfl (d_M_waits 56 rfl) ?_
                        refine x_iload (pc := 105) C (d_M_waits 57 rfl) 0 rfl ?_
                        cases c16 : st.2.2.1 32 x0 10 with
                        | none => rw [c16] at h; cases h
                        | some i15 =>
                          rw [c16] at h
                          dsimp only at h
                          by_cases b17 : x_in (st.1 39 i5 x1.toNatClampNeg) 6
                          · rw [if_pos b17] at h
                            refine x_iald (pc := 107) C ar_42 b17 (d_M_waits 58 rfl) ?_
                            refine x_iload_n (pc := 108) C (d_M_waits 59 rfl) rfl 5 rfl ?_
                            refine x_iadd (pc := 109) C (d_M_waits 60 rfl) ?_
                            refine x_bipush (pc := 110) (v := 32) C (by decide) (d_M_waits 61 rfl) ?_
                            refine x_icmp_le (pc := 112) (tgt := 119) C (d_M_waits 62 rfl) (by decide) (fun c18 => ?_) (fun c18 => ?_)
                            · rw [if_pos c18] at h
                              refine x_iconst (pc := 119) (v := 0) C (by decide) (d_M_waits 65 rfl) ?_
                              cases h
                              exact x_iret (pc := 120) C hret rfl (Nat.zero_le _) (Nat.zero_le _) (d_M_waits 66 rfl)
                            · rw [if_neg c18] at h
                              refine x_iconst (pc := 115) (v := 1) C (by decide) (d_M_waits 63 rfl) ?_
                              refine x_goto (pc := 116) (tgt := 120) C (d_M_waits 64 rfl) (by decide) ?_
                              cases h
                              exact x_iret (pc := 120) C hret rfl (Nat.zero_le _) (Nat.zero_le _) (d_M_waits 66 rfl)
                          · rw [if_neg b17] at h; cases h
              · rw [if_pos c9] at h
                refine x_iload_n (pc := 51) C (d_M_waits 29 rfl) rfl 4 rfl ?_
                refine x_if_eq (pc := 52) (tgt := 79) C (d_M_waits 30 rfl) (by decide) (fun c20 => ?_) (fun c20 => ?_)
                · rw [if_pos c20] at h
                  refine x_iconst (pc := 79) (v := 0) C (by decide) (d_M_waits 43 rfl) ?_
                  cases h
                  exact x_iret (pc := 80) C hret rfl (Nat.zero_le _) (Nat.zero_le _) (d_M_waits 44 rfl)
                · rw [if_neg c20] at h
                  refine x_aload_n (pc := 55) C (d_M_waits 31 rfl) rfl 2 rfl ?_
                  refine x_getR (pc := 56) (t := 42) C fl_M_38 rfl rfl (d_M_waits 32 rfl) ?_
                  refine x_iload (pc := 59) C (d_M_waits 33 rfl) 0 rfl ?_
                  cases c22 : st.2.2.1 32 x0 10 with
                  | none => rw [c22] at h; cases h
                  | some i21 =>
                    rw [c22] at h
                    dsimp only at h
                    by_cases b23 : x_in (st.1 39 i5 x1.toNatClampNeg) 6
                    · rw [if_pos b23] at h
                      refine x_iald (pc := 61) C ar_42 b23 (d_M_waits 34 rfl) ?_
                      refine x_if_ne (pc := 62) (tgt := 79) C (d_M_waits 35 rfl) (by decide) (fun c24 => ?_) (fun c24 => ?_)
                      · rw [if_neg c24] at h
                        refine x_iconst (pc := 79) (v := 0) C (by decide) (d_M_waits 43 rfl) ?_
                        cases h
                        exact x_iret (pc := 80) C hret rfl (Nat.zero_le _) (Nat.zero_le _) (d_M_waits 44 rfl)
                      · rw [if_pos c24] at h
                        refine x_aload_n (pc := 65) C (d_M_waits 36 rfl) rfl 2 rfl ?_
                        refine x_iconst (pc := 66) (v := 2) C (by decide) (d_M_waits 37 rfl) ?_
                        refine x_iload (pc := 67) C (d_M_waits 38 rfl) 0 rfl ?_
                        cases c25 : f_M_openings x0 2 (st.1 39 i5 x1.toNatClampNeg) st with
                        | none => rw [c25] at h; cases h
                        | some v26 =>
                          rw [c25] at h
                          dsimp only at h
                          refine x_callV (mc := 0) (ms := 0) (pc := 69) (bL := [xI (2), xI (st.1 39 i5 x1.toNatClampNeg)]) (K := []) C cs_M_78 (m_M_openings l c25 : x_M l _ _ _ _ (.inl (some (xI v26))) _ 0 0) (by decide) rfl (Nat.le_of_ble_eq_true rfl) (d_M_waits 39 rfl) ?_
                          refine x_if_le (pc := 72) (tgt := 79) C (d_M_waits 40 rfl) (by decide) (fun c27 => ?_) (fun c27 => ?_)
                          · rw [if_pos c27] at h
                            refine x_iconst (pc := 79) (v := 0) C (by decide) (d_M_waits 43 rfl) ?_
                            cases h
                            exact x_iret (pc := 80) C hret rfl (Nat.zero_le _) (Nat.zero_le _) (d_M_waits 44 rfl)
                          · rw [if_neg c27] at h
                            refine x_iconst (pc := 75) (v := 1) C (by decide) (d_M_waits 41 rfl) ?_
                            refine x_goto (pc := 76) (tgt := 80) C (d_M_waits 42 rfl) (by decide) ?_
                            cases h
                            exact x_iret (pc := 80) C hret rfl (Nat.zero_le _) (Nat.zero_le _) (d_M_waits 44 rfl)
                    · rw [if_neg b23] at h; cases h
            · rw [if_pos c8] at h
              refine x_iload_n (pc := 28) C (d_M_waits 17 rfl) rfl 4 rfl ?_
              refine x_if_eq (pc := 29) (tgt := 43) C (d_M_waits 18 rfl) (by decide) (fun c29 => ?_) (fun c29 => ?_)
              · rw [if_pos c29] at h
                refine x_iconst (pc := 43) (v := 0) C (by decide) (d_M_waits 24 rfl) ?_
                cases h
                exact x_iret (pc := 44) C hret rfl (Nat.zero_le _) (Nat.zero_le _) (d_M_waits 25 rfl)
              · rw [if_neg c29] at h
                refine x_aload_n (pc := 32) C (d_M_waits 19 rfl) rfl 2 rfl ?_
                refine x_getI (pc := 33) C fl_M_120 rfl (d_M_waits 20 rfl) ?_
                refine x_if_ne (pc := 36) (tgt := 43) C (d_M_waits 21 rfl) (by decide) (fun c30 => ?_) (fun c30 => ?_)
                · rw [if_neg c30] at h
                  refine x_iconst (pc := 43) (v := 0) C (by decide) (d_M_waits 24 rfl) ?_
                  cases h
                  exact x_iret (pc := 44) C hret rfl (Nat.zero_le _) (Nat.zero_le _) (d_M_waits 25 rfl)
                · rw [if_pos c30] at h
                  refine x_iconst (pc := 39) (v := 1) C (by decide) (d_M_waits 22 rfl) ?_
                  refine x_goto (pc := 40) (tgt := 44) C (d_M_waits 23 rfl) (by decide) ?_
                  cases h
                  exact x_iret (pc := 44) C hret rfl (Nat.zero_le _) (Nat.zero_le _) (d_M_waits 25 rfl)
          · rw [if_neg b7] at h; cases h
      · rw [if_neg b4] at h; cases h
  · rw [if_pos c1] at h
    refine x_iconst (pc := 4) (v := 0) C (by decide) (d_M_waits 2 rfl) ?_
    cases h
    exact x_iret (pc := 5) C hret rfl (Nat.zero_le _) (Nat.zero_le _) (d_M_waits 3 rfl)
def f_M_wake_52 (k4 : Nat → Int32 → Int32 → XS → Option (Int32 × XS)) (x0 : Nat) (x1 : Int32) (x2 : Int32) (s0 : Int32) (s1 : Int32) (s2 : Option Nat) (st : XS) : Option (Int32 × XS) :=
  match st.2.2.1 32 x0 3 with
  | none => none
  | some i1 =>
    if x_in x2 8 then
      match s2 with
      | none => none
      | some i4 =>
        match f_M_waits i4 s1 s0 (st.1 35 i1 x2.toNatClampNeg) st with
        | none => none
        | some v7 =>
          if v7 = 0 then
            match st.2.2.1 32 x0 1 with
            | none => none
            | some i9 =>
              if x_in x2 8 then
                match (xsI st 33 i9 x2.toNatClampNeg 1).2.2.1 32 x0 2 with
                | none => none
                | some i12 =>
                  if x_in x2 8 then
                    match (xsI (xsI st 33 i9 x2.toNatClampNeg 1) 34 i12 x2.toNatClampNeg ((-1))).2.2.1 32 x0 3 with
                    | none => none
                    | some i15 =>
                      if x_in x2 8 then
                        k4 x0 (x1 + 1) (x2 + 1) (xsI (xsI (xsI st 33 i9 x2.toNatClampNeg 1) 34 i12 x2.toNatClampNeg ((-1))) 35 i15 x2.toNatClampNeg 0)
                      else none
                  else none
              else none
          else
            k4 x0 x1 (x2 + 1) st
    else none
set_option maxRecDepth 100000 in
set_option maxHeartbeats 4000000 in
theorem v_M_wake_52 {p : Program} {l : Launch} {e : Env} {s : State} {m : MethodId} {args : Array Value} {below : List Frame} {meth : Method} {c : Code} {D : va_G} {cA : Nat → ClassId} {g0 : Nat → Nat → Nat} {n0 : Nat → Nat} {r : Int32} {st2 : XS} (C : x_C p e rm_M_wake s m args meth c D cA (x_A g0 n0 s.heap.size) M_M_wake.2.1 M_M_wake.1 M_M_wake.2.2.1) (hret : meth.sig.returnType = M_M_wake.2.2.2.1) (hmn : meth.name = M_M_wake.2.2.2.2.2) (hex : c.exceptionTable.toList.map (fun h => (h.startPc, h.endPc, h.handlerPc, h.catchType)) = M_M_wake.2.2.2.2.1) {k4 : Nat → Int32 → Int32 → XS → Option (Int32 × XS)} (hk4 : ∀ (x0 : Nat) (x1 : Int32) (x2 : Int32) (st : XS), k4 x0 x1 x2 st = some (r, st2) → x_V p l e rm_M_wake s m args below meth c D cA (x_A g0 n0 s.heap.size) M_M_wake.2.2.1 g0 n0 (x_MQ D cA g0 n0 below s 0 0 (.inl (some (xI r))) st2) 4 [(0, xR 32 (some (x0))), (1, xI (x1)), (2, xI (x2))] [] st 0 0) (x0 : Nat) (x1 : Int32) (x2 : Int32) (s0 : Int32) (s1 : Int32) (s2 : Option Nat) (st : XS) (h : f_M_wake_52 k4 x0 x1 x2 s0 s1 s2 st = some (r, st2)) : x_V p l e rm_M_wake s m args below meth c D cA (x_A g0 n0 s.heap.size) M_M_wake.2.2.1 g0 n0 (x_MQ D cA g0 n0 below s 0 0 (.inl (some (xI r))) st2) 52 [(0, xR 32 (some (x0))), (1, xI (x1)), (2, xI (x2))] [xI (s0), xI (s1), xR 32 (s2)] st 0 0 := by
  unfold f_M_wake_52 at h
  refine x_aload_n (pc := 52) C (d_M_wake 34 rfl) rfl 0 rfl ?_
  refine x_getR (pc := 53) (t := 35) C fl_M_16 rfl rfl (d_M_wake 35 rfl) ?_
  refine x_iload_n (pc := 56) C (d_M_wake 36 rfl) rfl 2 rfl ?_
  cases c2 : st.2.2.1 32 x0 3 with
  | none => rw [c2] at h; cases h
  | some i1 =>
    rw [c2] at h
    dsimp only at h
    by_cases b3 : x_in x2 8
    · rw [if_pos b3] at h
      refine x_iald (pc := 57) C ar_35 b3 (d_M_wake 37 rfl) ?_
      cases c5 : s2 with
      | none => rw [c5] at h; cases h
      | some i4 =>
        rw [c5] at h
        dsimp only at h
        cases c6 : f_M_waits i4 s1 s0 (st.1 35 i1 x2.toNatClampNeg) st with
        | none => rw [c6] at h; cases h
        | some v7 =>
          rw [c6] at h
          dsimp only at h
          refine x_callV (mc := 0) (ms := 0) (pc := 58) (bL := [xI (s1), xI (s0), xI (st.1 35 i1 x2.toNatClampNeg)]) (K := []) C cs_M_123 (m_M_waits l c6 : x_M l _ _ _ _ (.inl (some (xI v7))) _ 0 0) (by decide) rfl (Nat.le_of_ble_eq_true rfl) (d_M_wake 38 rfl) ?_
          refine x_if_eq (pc := 61) (tgt := 67) C (d_M_wake 39 rfl) (by decide) (fun c8 => ?_) (fun c8 => ?_)
          · rw [if_pos c8] at h
            refine x_aload_n (pc := 67) C (d_M_wake 41 rfl) rfl 0 rfl ?_
            refine x_getR (pc := 68) (t := 33) C fl_M_7 rfl rfl (d_M_wake 42 rfl) ?_
            refine x_iload_n (pc := 71) C (d_M_wake 43 rfl) rfl 2 rfl ?_
            refine x_iconst (pc := 72) (v := 1) C (by decide) (d_M_wake 44 rfl) ?_
            cases c10 : st.2.2.1 32 x0 1 with
            | none => rw [c10] at h; cases h
            | some i9 =>
              rw [c10] at h
              dsimp only at h
              by_cases b11 : x_in x2 8
              · rw [if_pos b11] at h
                refine x_iast (pc := 73) C ar_33 b11 (d_M_wake 45 rfl) ?_
                refine x_aload_n (pc := 74) C (d_M_wake 46 rfl) rfl 0 rfl ?_
                refine x_getR (pc := 75) (t := 34) C fl_M_13 rfl rfl (d_M_wake 47 rfl) ?_
                refine x_iload_n (pc := 78) C (d_M_wake 48 rfl) rfl 2 rfl ?_
                refine x_iconst (pc := 79) (v := (-1)) C (by decide) (d_M_wake 49 rfl) ?_
                cases c13 : (xsI st 33 i9 x2.toNatClampNeg 1).2.2.1 32 x0 2 with
                | none => rw [c13] at h; cases h
                | some i12 =>
                  rw [c13] at h
                  dsimp only at h
                  by_cases b14 : x_in x2 8
                  · rw [if_pos b14] at h
                    refine x_iast (pc := 80) C ar_34 b14 (d_M_wake 50 rfl) ?_
                    refine x_aload_n (pc := 81) C (d_M_wake 51 rfl) rfl 0 rfl ?_
                    refine x_getR (pc := 82) (t := 35) C fl_M_16 rfl rfl (d_M_wake 52 rfl) ?_
                    refine x_iload_n (pc := 85) C (d_M_wake 53 rfl) rfl 2 rfl ?_
                    refine x_iconst (pc := 86) (v := 0) C (by decide) (d_M_wake 54 rfl) ?_
                    cases c16 : (xsI (xsI st 33 i9 x2.toNatClampNeg 1) 34 i12 x2.toNatClampNeg ((-1))).2.2.1 32 x0 3 with
                    | none => rw [c16] at h; cases h
                    | some i15 =>
                      rw [c16] at h
                      dsimp only at h
                      by_cases b17 : x_in x2 8
                      · rw [if_pos b17] at h
                        refine x_iast (pc := 87) C ar_35 b17 (d_M_wake 55 rfl) ?_
                        refine x_iinc (pc := 88) (v := x1 + 1) (L2 := [(1, xI (x1 + 1)), (0, xR 32 (some (x0))), (2, xI (x2))]) C (d_M_wake 56 rfl) 1 rfl rfl (by decide) rfl ?_
                        refine x_iinc (pc := 91) (v := x2 + 1) (L2 := [(2, xI (x2 + 1)), (1, xI (x1 + 1)), (0, xR 32 (some (x0)))]) C (d_M_wake 57 rfl) 2 rfl rfl (by decide) rfl ?_
                        refine x_goto (pc := 94) (tgt := 4) C (d_M_wake 58 rfl) (by decide) ?_
                        exact x_sub [2, 1, 0] rfl (hk4 _ _ _ _ h)
                      · rw [if_neg b17] at h; cases h
                  · rw [if_neg b14] at h; cases h
              · rw [if_neg b11] at h; cases h
          · rw [if_neg c8] at h
            refine x_goto (pc := 64) (tgt := 91) C (d_M_wake 40 rfl) (by decide) ?_
            refine x_iinc (pc := 91) (v := x2 + 1) (L2 := [(2, xI (x2 + 1)), (0, xR 32 (some (x0))), (1, xI (x1))]) C (d_M_wake 57 rfl) 2 rfl rfl (by decide) rfl ?_
            refine x_goto (pc := 94) (tgt := 4) C (d_M_wake 58 rfl) (by decide) ?_
            exact x_sub [1, 2, 0] rfl (hk4 _ _ _ _ h)
    · rw [if_neg b3] at h; cases h
def f_M_wake_4  : Nat → Nat → Int32 → Int32 → XS → Option (Int32 × XS)
  | 0, _, _, _, _ => none
  | n + 1, x0, x1, x2, st =>
    if 8 ≤ x2 then
      some (x1, st)
    else
      match st.2.2.1 32 x0 1 with
      | none => none
      | some i20 =>
        if x_in x2 8 then
          if (st.1 33 i20 x2.toNatClampNeg) < 2 then
            f_M_wake_4 n x0 x1 (x2 + 1) st
          else
            match st.2.2.1 32 x0 2 with
            | none => none
            | some i24 =>
              if x_in x2 8 then
                match st.2.2.1 32 x0 4 with
                | none => none
                | some i27 =>
                  if x_in (((8 : Int32) * x2) + (st.1 34 i24 x2.toNatClampNeg)) 64 then
                    if x_in x2 8 then
                      if (st.1 33 i20 x2.toNatClampNeg) = 2 then
                        f_M_wake_52 (fun a0 a1 a2 a3 => f_M_wake_4 n a0 a1 a2 a3) x0 x1 x2 1 (st.1 36 i27 (((8 : Int32) * x2) + (st.1 34 i24 x2.toNatClampNeg)).toNatClampNeg) (some (x0)) st
                      else
                        f_M_wake_52 (fun a0 a1 a2 a3 => f_M_wake_4 n a0 a1 a2 a3) x0 x1 x2 0 (st.1 36 i27 (((8 : Int32) * x2) + (st.1 34 i24 x2.toNatClampNeg)).toNatClampNeg) (some (x0)) st
                    else none
                  else none
              else none
        else none
set_option maxRecDepth 100000 in
set_option maxHeartbeats 4000000 in
theorem v_M_wake_4 {p : Program} {l : Launch} {e : Env} {s : State} {m : MethodId} {args : Array Value} {below : List Frame} {meth : Method} {c : Code} {D : va_G} {cA : Nat → ClassId} {g0 : Nat → Nat → Nat} {n0 : Nat → Nat} {r : Int32} {st2 : XS} (C : x_C p e rm_M_wake s m args meth c D cA (x_A g0 n0 s.heap.size) M_M_wake.2.1 M_M_wake.1 M_M_wake.2.2.1) (hret : meth.sig.returnType = M_M_wake.2.2.2.1) (hmn : meth.name = M_M_wake.2.2.2.2.2) (hex : c.exceptionTable.toList.map (fun h => (h.startPc, h.endPc, h.handlerPc, h.catchType)) = M_M_wake.2.2.2.2.1)  : ∀ (n : Nat) (x0 : Nat) (x1 : Int32) (x2 : Int32) (st : XS), f_M_wake_4 n x0 x1 x2 st = some (r, st2) → x_V p l e rm_M_wake s m args below meth c D cA (x_A g0 n0 s.heap.size) M_M_wake.2.2.1 g0 n0 (x_MQ D cA g0 n0 below s 0 0 (.inl (some (xI r))) st2) 4 [(0, xR 32 (some (x0))), (1, xI (x1)), (2, xI (x2))] [] st 0 0 := by
  intro n
  induction n with
  | zero => intro x0 x1 x2 st h; cases h
  | succ n ih =>
    intro x0 x1 x2 st h
    rw [f_M_wake_4.eq_def] at h
    dsimp only at h
    refine x_iload_n (pc := 4) C (d_M_wake 4 rfl) rfl 2 rfl ?_
    refine x_bipush (pc := 5) (v := 8) C (by decide) (d_M_wake 5 rfl) ?_
    refine x_icmp_ge (pc := 7) (tgt := 97) C (d_M_wake 6 rfl) (by decide) (fun c19 => ?_) (fun c19 => ?_)
    · rw [if_pos c19] at h
      refine x_iload_n (pc := 97) C (d_M_wake 59 rfl) rfl 1 rfl ?_
      cases h
      exact x_iret (pc := 98) C hret rfl (Nat.zero_le _) (Nat.zero_le _) (d_M_wake 60 rfl)
    · rw [if_neg c19] at h
      refine x_aload_n (pc := 10) C (d_M_wake 7 rfl) rfl 0 rfl ?_
      refine x_getR (pc := 11) (t := 33) C fl_M_7 rfl rfl (d_M_wake 8 rfl) ?_
      refine x_iload_n (pc := 14) C (d_M_wake 9 rfl) rfl 2 rfl ?_
      cases c21 : st.2.2.1 32 x0 1 with
      | none => rw [c21] at h; cases h
      | some i20 =>
        rw [c21] at h
        dsimp only at h
        by_cases b22 : x_in x2 8
        · rw [if_pos b22] at h
          refine x_iald (pc := 15) C ar_33 b22 (d_M_wake 10 rfl) ?_
          refine x_iconst (pc := 16) (v := 2) C (by decide) (d_M_wake 11 rfl) ?_
          refine x_icmp_lt (pc := 17) (tgt := 91) C (d_M_wake 12 rfl) (by decide) (fun c23 => ?_) (fun c23 => ?_)
          · rw [if_pos c23] at h
            refine x_iinc (pc := 91) (v := x2 + 1) (L2 := [(2, xI (x2 + 1)), (0, xR 32 (some (x0))), (1, xI (x1))]) C (d_M_wake 57 rfl) 2 rfl rfl (by decide) rfl ?_
            refine x_goto (pc := 94) (tgt := 4) C (d_M_wake 58 rfl) (by decide) ?_
            exact x_sub [1, 2, 0] rfl (ih _ _ _ _ h)
          · rw [if_neg c23] at h
            refine x_aload_n (pc := 20) C (d_M_wake 13 rfl) rfl 0 rfl ?_
            refine x_aload_n (pc := 21) C (d_M_wake 14 rfl) rfl 0 rfl ?_
            refine x_getR (pc := 22) (t := 36) C fl_M_19 rfl rfl (d_M_wake 15 rfl) ?_
            refine x_bipush (pc := 25) (v := 8) C (by decide) (d_M_wake 16 rfl) ?_
            refine x_iload_n (pc := 27) C (d_M_wake 17 rfl) rfl 2 rfl ?_
            refine x_imul (pc := 28) C (d_M_wake 18 rfl) ?_
            refine x_aload_n (pc := 29) C (d_M_wake 19 rfl) rfl 0 rfl ?_
            refine x_getR (pc := 30) (t := 34) C fl_M_13 rfl rfl (d_M_wake 20 rfl) ?_
            refine x_iload_n (pc := 33) C (d_M_wake 21 rfl) rfl 2 rfl ?_
            cases c25 : st.2.2.1 32 x0 2 with
            | none => rw [c25] at h; cases h
            | some i24 =>
              rw [c25] at h
              dsimp only at h
              by_cases b26 : x_in x2 8
              · rw [if_pos b26] at h
                refine x_iald (pc := 34) C ar_34 b26 (d_M_wake 22 rfl) ?_
                refine x_iadd (pc := 35) C (d_M_wake 23 rfl) ?_
                cases c28 : st.2.2.1 32 x0 4 with
                | none => rw [c28] at h; cases h
                | some i27 =>
                  rw [c28] at h
                  dsimp only at h
                  by_cases b29 : x_in (((8 : Int32) * x2) + (st.1 34 i24 x2.toNatClampNeg)) 64
                  · rw [if_pos b29] at h
                    refine x_iald (pc := 36) C ar_36 b29 (d_M_wake 24 rfl) ?_
                    refine x_aload_n (pc := 37) C (d_M_wake 25 rfl) rfl 0 rfl ?_
                    refine x_getR (pc := 38) (t := 33) C fl_M_7 rfl rfl (d_M_wake 26 rfl) ?_
                    rw [c21]
                    refine x_iload_n (pc := 41) C (d_M_wake 27 rfl) rfl 2 rfl ?_
                    by_cases b30 : x_in x2 8
                    · rw [if_pos b30] at h
                      refine x_iald (pc := 42) C ar_33 b30 (d_M_wake 28 rfl) ?_
                      refine x_iconst (pc := 43) (v := 2) C (by decide) (d_M_wake 29 rfl) ?_
                      refine x_icmp_ne (pc := 44) (tgt := 51) C (d_M_wake 30 rfl) (by decide) (fun c31 => ?_) (fun c31 => ?_)
                      · rw [if_neg c31] at h
                        refine x_iconst (pc := 51) (v := 0) C (by decide) (d_M_wake 33 rfl) ?_
                        exact x_sub [0, 1, 2] rfl (v_M_wake_52 C hret hmn hex (fun a0 a1 a2 a3 hh => ih a0 a1 a2 a3 hh) _ _ _ _ _ _ _ h)
                      · rw [if_pos c31] at h
                        refine x_iconst (pc := 47) (v := 1) C (by decide) (d_M_wake 31 rfl) ?_
                        refine x_goto (pc := 48) (tgt := 52) C (d_M_wake 32 rfl) (by decide) ?_
                        exact x_sub [0, 1, 2] rfl (v_M_wake_52 C hret hmn hex (fun a0 a1 a2 a3 hh => ih a0 a1 a2 a3 hh) _ _ _ _ _ _ _ h)
                    · rw [if_neg b30] at h; cases h
                  · rw [if_neg b29] at h; cases h
              · rw [if_neg b26] at h; cases h
        · rw [if_neg b22] at h; cases h
def f_M_wake (x0 : Nat) (st : XS) : Option (Int32 × XS) :=
  f_M_wake_4 100 x0 0 0 st
set_option maxRecDepth 100000 in
set_option maxHeartbeats 4000000 in
theorem m_M_wake (l : Launch) {x0 : Nat} {st : XS} {r : Int32} {st2 : XS} (h : f_M_wake x0 st = some (r, st2)) : x_M l M_M_wake rm_M_wake [xR 32 (some (x0))] st (.inl (some (xI r))) st2 0 0 := by
  refine x_enter (Nat.le_of_ble_eq_true rfl) ?_
  intro p e s m below meth c D cA g args B C
  have hret := B.2.2.2.2.2.2.2.2.1
  have hmn := B.2.2.2.2.2.2.2.1
  have hex := B.2.2.2.2.2.2.2.2.2.1
  unfold f_M_wake at h
  refine x_iconst (pc := 0) (v := 0) C (by decide) (d_M_wake 0 rfl) ?_
  refine x_istore_n (pc := 1) (L2 := [(1, xI (0)), (0, xR 32 (some (x0)))]) C (d_M_wake 1 rfl) rfl (by decide) rfl ?_
  refine x_iconst (pc := 2) (v := 0) C (by decide) (d_M_wake 2 rfl) ?_
  refine x_istore_n (pc := 3) (L2 := [(2, xI (0)), (1, xI (0)), (0, xR 32 (some (x0)))]) C (d_M_wake 3 rfl) rfl (by decide) rfl ?_
  exact x_sub [2, 1, 0] rfl (v_M_wake_4 C hret hmn hex 100 _ _ _ _ h)
def f_M_exit_25  : Nat → Nat → Int32 → Int32 → XS → Option (Int32 × XS)
  | 0, _, _, _, _ => none
  | n + 1, x0, x1, x2, st =>
    if 8 ≤ x2 then
      match st.2.2.1 32 x0 1 with
      | none => none
      | some i2 =>
        if x_in x1 8 then
          match (xsI st 33 i2 x1.toNatClampNeg 0).2.2.1 32 x0 2 with
          | none => none
          | some i5 =>
            if x_in x1 8 then
              match (xsI (xsI st 33 i2 x1.toNatClampNeg 0) 34 i5 x1.toNatClampNeg ((-1))).2.2.1 32 x0 3 with
              | none => none
              | some i8 =>
                if x_in x1 8 then
                  match (xsI (xsI (xsI st 33 i2 x1.toNatClampNeg 0) 34 i5 x1.toNatClampNeg ((-1))) 35 i8 x1.toNatClampNeg 0).2.2.1 32 x0 5 with
                  | none => none
                  | some i11 =>
                    if x_in x1 8 then
                      match f_M_sweep x0 (xsJ (xsI (xsI (xsI st 33 i2 x1.toNatClampNeg 0) 34 i5 x1.toNatClampNeg ((-1))) 35 i8 x1.toNatClampNeg 0) 37 i11 x1.toNatClampNeg 0) with
                      | none => none
                      | some (_, st16) =>
                        match f_M_wake x0 st16 with
                        | none => none
                        | some (v18, st19) =>
                          some (v18, st19)
                    else none
                else none
            else none
        else none
    else
      match st.2.2.1 32 x0 4 with
      | none => none
      | some i22 =>
        if x_in (((8 : Int32) * x1) + x2) 64 then
          f_M_exit_25 n x0 x1 (x2 + 1) (xsI st 36 i22 (((8 : Int32) * x1) + x2).toNatClampNeg ((-1)))
        else none
set_option maxRecDepth 100000 in
set_option maxHeartbeats 4000000 in
theorem v_M_exit_25 {p : Program} {l : Launch} {e : Env} {s : State} {m : MethodId} {args : Array Value} {below : List Frame} {meth : Method} {c : Code} {D : va_G} {cA : Nat → ClassId} {g0 : Nat → Nat → Nat} {n0 : Nat → Nat} {r : Int32} {st2 : XS} (C : x_C p e rm_M_exit s m args meth c D cA (x_A g0 n0 s.heap.size) M_M_exit.2.1 M_M_exit.1 M_M_exit.2.2.1) (hret : meth.sig.returnType = M_M_exit.2.2.2.1) (hmn : meth.name = M_M_exit.2.2.2.2.2) (hex : c.exceptionTable.toList.map (fun h => (h.startPc, h.endPc, h.handlerPc, h.catchType)) = M_M_exit.2.2.2.2.1)  : ∀ (n : Nat) (x0 : Nat) (x1 : Int32) (x2 : Int32) (st : XS), f_M_exit_25 n x0 x1 x2 st = some (r, st2) → x_V p l e rm_M_exit s m args below meth c D cA (x_A g0 n0 s.heap.size) M_M_exit.2.2.1 g0 n0 (x_MQ D cA g0 n0 below s 0 0 (.inl (some (xI r))) st2) 25 [(0, xR 32 (some (x0))), (1, xI (x1)), (2, xI (x2))] [] st 0 0 := by
  intro n
  induction n with
  | zero => intro x0 x1 x2 st h; cases h
  | succ n ih =>
    intro x0 x1 x2 st h
    rw [f_M_exit_25.eq_def] at h
    dsimp only at h
    refine x_iload_n (pc := 25) C (d_M_exit 15 rfl) rfl 2 rfl ?_
    refine x_bipush (pc := 26) (v := 8) C (by decide) (d_M_exit 16 rfl) ?_
    refine x_icmp_ge (pc := 28) (tgt := 49) C (d_M_exit 17 rfl) (by decide) (fun c1 => ?_) (fun c1 => ?_)
    · rw [if_pos c1] at h
      refine x_aload_n (pc := 49) C (d_M_exit 29 rfl) rfl 0 rfl ?_
      refine x_getR (pc := 50) (t := 33) C fl_M_7 rfl rfl (d_M_exit 30 rfl) ?_
      refine x_iload_n (pc := 53) C (d_M_exit 31 rfl) rfl 1 rfl ?_
      refine x_iconst (pc := 54) (v := 0) C (by decide) (d_M_exit 32 rfl) ?_
      cases c3 : st.2.2.1 32 x0 1 with
      | none => rw [c3] at h; cases h
      | some i2 =>
        rw [c3] at h
        dsimp only at h
        by_cases b4 : x_in x1 8
        · rw [if_pos b4] at h
          refine x_iast (pc := 55) C ar_33 b4 (d_M_exit 33 rfl) ?_
          refine x_aload_n (pc := 56) C (d_M_exit 34 rfl) rfl 0 rfl ?_
          refine x_getR (pc := 57) (t := 34) C fl_M_13 rfl rfl (d_M_exit 35 rfl) ?_
          refine x_iload_n (pc := 60) C (d_M_exit 36 rfl) rfl 1 rfl ?_
          refine x_iconst (pc := 61) (v := (-1)) C (by decide) (d_M_exit 37 rfl) ?_
          cases c6 : (xsI st 33 i2 x1.toNatClampNeg 0).2.2.1 32 x0 2 with
          | none => rw [c6] at h; cases h
          | some i5 =>
            rw [c6] at h
            dsimp only at h
            by_cases b7 : x_in x1 8
            · rw [if_pos b7] at h
              refine x_iast (pc := 62) C ar_34 b7 (d_M_exit 38 rfl) ?_
              refine x_aload_n (pc := 63) C (d_M_exit 39 rfl) rfl 0 rfl ?_
              refine x_getR (pc := 64) (t := 35) C fl_M_16 rfl rfl (d_M_exit 40 rfl) ?_
              refine x_iload_n (pc := 67) C (d_M_exit 41 rfl) rfl 1 rfl ?_
              refine x_iconst (pc := 68) (v := 0) C (by decide) (d_M_exit 42 rfl) ?_
              cases c9 : (xsI (xsI st 33 i2 x1.toNatClampNeg 0) 34 i5 x1.toNatClampNeg ((-1))).2.2.1 32 x0 3 with
              | none => rw [c9] at h; cases h
              | some i8 =>
                rw [c9] at h
                dsimp only at h
                by_cases b10 : x_in x1 8
                · rw [if_pos b10] at h
                  refine x_iast (pc := 69) C ar_35 b10 (d_M_exit 43 rfl) ?_
                  refine x_aload_n (pc := 70) C (d_M_exit 44 rfl) rfl 0 rfl ?_
                  refine x_getR (pc := 71) (t := 37) C fl_M_22 rfl rfl (d_M_exit 45 rfl) ?_
                  refine x_iload_n (pc := 74) C (d_M_exit 46 rfl) rfl 1 rfl ?_
                  refine x_lconst (pc := 75) (v := 0) C (by decide) (d_M_exit 47 rfl) ?_
                  cases c12 : (xsI (xsI (xsI st 33 i2 x1.toNatClampNeg 0) 34 i5 x1.toNatClampNeg ((-1))) 35 i8 x1.toNatClampNeg 0).2.2.1 32 x0 5 with
                  | none => rw [c12] at h; cases h
                  | some i11 =>
                    rw [c12] at h
                    dsimp only at h
                    by_cases b13 : x_in x1 8
                    · rw [if_pos b13] at h
                      refine x_last (pc := 76) C ar_37 b13 (d_M_exit 48 rfl) ?_
                      refine x_aload_n (pc := 77) C (d_M_exit 49 rfl) rfl 0 rfl ?_
                      cases c14 : f_M_sweep x0 (xsJ (xsI (xsI (xsI st 33 i2 x1.toNatClampNeg 0) 34 i5 x1.toNatClampNeg ((-1))) 35 i8 x1.toNatClampNeg 0) 37 i11 x1.toNatClampNeg 0) with
                      | none => rw [c14] at h; cases h
                      | some w21 =>
                        obtain ⟨v15, st16⟩ := w21
                        rw [c14] at h
                        dsimp only at h
                        refine x_callV (mc := 0) (ms := 0) (pc := 78) (bL := []) (K := []) C cs_M_114 (m_M_sweep l c14 : x_M l _ _ _ _ (.inl none) _ 0 0) (by decide) rfl (Nat.le_of_ble_eq_true rfl) (d_M_exit 50 rfl) ?_
                        refine x_aload_n (pc := 81) C (d_M_exit 51 rfl) rfl 0 rfl ?_
                        cases c17 : f_M_wake x0 st16 with
                        | none => rw [c17] at h; cases h
                        | some w20 =>
                          obtain ⟨v18, st19⟩ := w20
                          rw [c17] at h
                          dsimp only at h
                          refine x_callV (mc := 0) (ms := 0) (pc := 82) (bL := []) (K := []) C cs_M_117 (m_M_wake l c17 : x_M l _ _ _ _ (.inl (some (xI v18))) _ 0 0) (by decide) rfl (Nat.le_of_ble_eq_true rfl) (d_M_exit 52 rfl) ?_
                          cases h
                          exact x_iret (pc := 85) C hret rfl (Nat.zero_le _) (Nat.zero_le _) (d_M_exit 53 rfl)
                    · rw [if_neg b13] at h; cases h
                · rw [if_neg b10] at h; cases h
            · rw [if_neg b7] at h; cases h
        · rw [if_neg b4] at h; cases h
    · rw [if_neg c1] at h
      refine x_aload_n (pc := 31) C (d_M_exit 18 rfl) rfl 0 rfl ?_
      refine x_getR (pc := 32) (t := 36) C fl_M_19 rfl rfl (d_M_exit 19 rfl) ?_
      refine x_bipush (pc := 35) (v := 8) C (by decide) (d_M_exit 20 rfl) ?_
      refine x_iload_n (pc := 37) C (d_M_exit 21 rfl) rfl 1 rfl ?_
      refine x_imul (pc := 38) C (d_M_exit 22 rfl) ?_
      refine x_iload_n (pc := 39) C (d_M_exit 23 rfl) rfl 2 rfl ?_
      refine x_iadd (pc := 40) C (d_M_exit 24 rfl) ?_
      refine x_iconst (pc := 41) (v := (-1)) C (by decide) (d_M_exit 25 rfl) ?_
      cases c23 : st.2.2.1 32 x0 4 with
      | none => rw [c23] at h; cases h
      | some i22 =>
        rw [c23] at h
        dsimp only at h
        by_cases b24 : x_in (((8 : Int32) * x1) + x2) 64
        · rw [if_pos b24] at h
          refine x_iast (pc := 42) C ar_36 b24 (d_M_exit 26 rfl) ?_
          refine x_iinc (pc := 43) (v := x2 + 1) (L2 := [(2, xI (x2 + 1)), (0, xR 32 (some (x0))), (1, xI (x1))]) C (d_M_exit 27 rfl) 2 rfl rfl (by decide) rfl ?_
          refine x_goto (pc := 46) (tgt := 25) C (d_M_exit 28 rfl) (by decide) ?_
          exact x_sub [1, 2, 0] rfl (ih _ _ _ _ h)
        · rw [if_neg b24] at h; cases h
def f_M_exit (x0 : Nat) (x1 : Int32) (st : XS) : Option (Int32 × XS) :=
  match f_M_isThere x0 x1 st with
  | none => none
  | some v26 =>
    if v26 = 0 then
      match f_M_fails x0 1 0 st with
      | none => none
      | some (v34, st35) =>
        if v34 = 0 then
          f_M_exit_25 100 x0 x1 0 st35
        else
          some (0, st35)
    else
      match f_M_fails x0 0 0 st with
      | none => none
      | some (v29, st30) =>
        if v29 = 0 then
          f_M_exit_25 100 x0 x1 0 st30
        else
          some (0, st30)
set_option maxRecDepth 100000 in
set_option maxHeartbeats 4000000 in
theorem m_M_exit (l : Launch) {x0 : Nat} {x1 : Int32} {st : XS} {r : Int32} {st2 : XS} (h : f_M_exit x0 x1 st = some (r, st2)) : x_M l M_M_exit rm_M_exit [xR 32 (some (x0)), xI (x1)] st (.inl (some (xI r))) st2 0 0 := by
  refine x_enter (Nat.le_of_ble_eq_true rfl) ?_
  intro p e s m below meth c D cA g args B C
  have hret := B.2.2.2.2.2.2.2.2.1
  have hmn := B.2.2.2.2.2.2.2.1
  have hex := B.2.2.2.2.2.2.2.2.2.1
  unfold f_M_exit at h
  refine x_aload_n (pc := 0) C (d_M_exit 0 rfl) rfl 0 rfl ?_
  refine x_aload_n (pc := 1) C (d_M_exit 1 rfl) rfl 0 rfl ?_
  refine x_iload_n (pc := 2) C (d_M_exit 2 rfl) rfl 1 rfl ?_
  cases c25 : f_M_isThere x0 x1 st with
  | none => rw [c25] at h; cases h
  | some v26 =>
    rw [c25] at h
    dsimp only at h
    refine x_callV (mc := 0) (ms := 0) (pc := 3) (bL := [xI (x1)]) (K := [xR 32 (some (x0))]) C cs_M_111 (m_M_isThere l c25 : x_M l _ _ _ _ (.inl (some (xI v26))) _ 0 0) (by decide) rfl (Nat.le_of_ble_eq_true rfl) (d_M_exit 3 rfl) ?_
    refine x_if_ne (pc := 6) (tgt := 13) C (d_M_exit 4 rfl) (by decide) (fun c27 => ?_) (fun c27 => ?_)
    · rw [if_neg c27] at h
      refine x_iconst (pc := 13) (v := 0) C (by decide) (d_M_exit 7 rfl) ?_
      refine x_iconst (pc := 14) (v := 0) C (by decide) (d_M_exit 8 rfl) ?_
      cases c28 : f_M_fails x0 0 0 st with
      | none => rw [c28] at h; cases h
      | some w32 =>
        obtain ⟨v29, st30⟩ := w32
        rw [c28] at h
        dsimp only at h
        refine x_callV (mc := 0) (ms := 0) (pc := 15) (bL := [xI (0), xI (0)]) (K := []) C cs_M_107 (m_M_fails l c28 : x_M l _ _ _ _ (.inl (some (xI v29))) _ 0 0) (by decide) rfl (Nat.le_of_ble_eq_true rfl) (d_M_exit 9 rfl) ?_
        refine x_if_eq (pc := 18) (tgt := 23) C (d_M_exit 10 rfl) (by decide) (fun c31 => ?_) (fun c31 => ?_)
        · rw [if_pos c31] at h
          refine x_iconst (pc := 23) (v := 0) C (by decide) (d_M_exit 13 rfl) ?_
          refine x_istore_n (pc := 24) (L2 := [(2, xI (0)), (0, xR 32 (some (x0))), (1, xI (x1))]) C (d_M_exit 14 rfl) rfl (by decide) rfl ?_
          exact x_sub [1, 2, 0] rfl (v_M_exit_25 C hret hmn hex 100 _ _ _ _ h)
        · rw [if_neg c31] at h
          refine x_iconst (pc := 21) (v := 0) C (by decide) (d_M_exit 11 rfl) ?_
          cases h
          exact x_iret (pc := 22) C hret rfl (Nat.zero_le _) (Nat.zero_le _) (d_M_exit 12 rfl)
    · rw [if_pos c27] at h
      refine x_iconst (pc := 9) (v := 1) C (by decide) (d_M_exit 5 rfl) ?_
      refine x_goto (pc := 10) (tgt := 14) C (d_M_exit 6 rfl) (by decide) ?_
      refine x_iconst (pc := 14) (v := 0) C (by decide) (d_M_exit 8 rfl) ?_
      cases c33 : f_M_fails x0 1 0 st with
      | none => rw [c33] at h; cases h
      | some w37 =>
        obtain ⟨v34, st35⟩ := w37
        rw [c33] at h
        dsimp only at h
        refine x_callV (mc := 0) (ms := 0) (pc := 15) (bL := [xI (1), xI (0)]) (K := []) C cs_M_107 (m_M_fails l c33 : x_M l _ _ _ _ (.inl (some (xI v34))) _ 0 0) (by decide) rfl (Nat.le_of_ble_eq_true rfl) (d_M_exit 9 rfl) ?_
        refine x_if_eq (pc := 18) (tgt := 23) C (d_M_exit 10 rfl) (by decide) (fun c36 => ?_) (fun c36 => ?_)
        · rw [if_pos c36] at h
          refine x_iconst (pc := 23) (v := 0) C (by decide) (d_M_exit 13 rfl) ?_
          refine x_istore_n (pc := 24) (L2 := [(2, xI (0)), (0, xR 32 (some (x0))), (1, xI (x1))]) C (d_M_exit 14 rfl) rfl (by decide) rfl ?_
          exact x_sub [1, 2, 0] rfl (v_M_exit_25 C hret hmn hex 100 _ _ _ _ h)
        · rw [if_neg c36] at h
          refine x_iconst (pc := 21) (v := 0) C (by decide) (d_M_exit 11 rfl) ?_
          cases h
          exact x_iret (pc := 22) C hret rfl (Nat.zero_le _) (Nat.zero_le _) (d_M_exit 12 rfl)
def f_M_named_2  : Nat → Nat → Int32 → Int32 → XS → Option Int32
  | 0, _, _, _, _ => none
  | n + 1, x0, x1, x2, st =>
    if 6 ≤ x2 then
      if 6 ≤ x2 then
        some ((-1))
      else
        some (x2)
    else
      match st.2.2.1 32 x0 13 with
      | none => none
      | some i3 =>
        if x_in x2 6 then
          if (st.1 45 i3 x2.toNatClampNeg) = 0 then
            f_M_named_2 n x0 x1 (x2 + 1) st
          else
            match st.2.2.1 32 x0 14 with
            | none => none
            | some i7 =>
              if x_in x2 6 then
                if (st.1 46 i7 x2.toNatClampNeg) = x1 then
                  if 6 ≤ x2 then
                    some ((-1))
                  else
                    some (x2)
                else
                  f_M_named_2 n x0 x1 (x2 + 1) st
              else none
        else none
set_option maxRecDepth 100000 in
set_option maxHeartbeats 4000000 in
theorem v_M_named_2 {p : Program} {l : Launch} {e : Env} {s : State} {m : MethodId} {args : Array Value} {below : List Frame} {meth : Method} {c : Code} {D : va_G} {cA : Nat → ClassId} {g0 : Nat → Nat → Nat} {n0 : Nat → Nat} {r : Int32} (C : x_C p e rm_M_named s m args meth c D cA (x_A g0 n0 s.heap.size) M_M_named.2.1 M_M_named.1 M_M_named.2.2.1) (hret : meth.sig.returnType = M_M_named.2.2.2.1) (hmn : meth.name = M_M_named.2.2.2.2.2) (hex : c.exceptionTable.toList.map (fun h => (h.startPc, h.endPc, h.handlerPc, h.catchType)) = M_M_named.2.2.2.2.1)  : ∀ (n : Nat) (x0 : Nat) (x1 : Int32) (x2 : Int32) (st : XS), f_M_named_2 n x0 x1 x2 st = some r → x_V p l e rm_M_named s m args below meth c D cA (x_A g0 n0 s.heap.size) M_M_named.2.2.1 g0 n0 (x_MQ D cA g0 n0 below s 0 0 (.inl (some (xI r))) st) 2 [(0, xR 32 (some (x0))), (1, xI (x1)), (2, xI (x2))] [] st 0 0 := by
  intro n
  induction n with
  | zero => intro x0 x1 x2 st h; cases h
  | succ n ih =>
    intro x0 x1 x2 st h
    rw [f_M_named_2.eq_def] at h
    dsimp only at h
    refine x_iload_n (pc := 2) C (d_M_named 2 rfl) rfl 2 rfl ?_
    refine x_bipush (pc := 3) (v := 6) C (by decide) (d_M_named 3 rfl) ?_
    refine x_icmp_ge (pc := 5) (tgt := 33) C (d_M_named 4 rfl) (by decide) (fun c1 => ?_) (fun c1 => ?_)
    · rw [if_pos c1] at h
      refine x_iload_n (pc := 33) C (d_M_named 18 rfl) rfl 2 rfl ?_
      refine x_bipush (pc := 34) (v := 6) C (by decide) (d_M_named 19 rfl) ?_
      refine x_icmp_ge (pc := 36) (tgt := 43) C (d_M_named 20 rfl) (by decide) (fun c2 => ?_) (fun c2 => ?_)
      · rw [if_pos c2] at h
        refine x_iconst (pc := 43) (v := (-1)) C (by decide) (d_M_named 23 rfl) ?_
        cases h
        exact x_iret (pc := 44) C hret rfl (Nat.zero_le _) (Nat.zero_le _) (d_M_named 24 rfl)
      · rw [if_neg c2] at h
        refine x_iload_n (pc := 39) C (d_M_named 21 rfl) rfl 2 rfl ?_
        refine x_goto (pc := 40) (tgt := 44) C (d_M_named 22 rfl) (by decide) ?_
        cases h
        exact x_iret (pc := 44) C hret rfl (Nat.zero_le _) (Nat.zero_le _) (d_M_named 24 rfl)
    · rw [if_neg c1] at h
      refine x_aload_n (pc := 8) C (d_M_named 5 rfl) rfl 0 rfl ?_
      refine x_getR (pc := 9) (t := 45) C fl_M_48 rfl rfl (d_M_named 6 rfl) ?_
      refine x_iload_n (pc := 12) C (d_M_named 7 rfl) rfl 2 rfl ?_
      cases c4 : st.2.2.1 32 x0 13 with
      | none => rw [c4] at h; cases h
      | some i3 =>
        rw [c4] at h
        dsimp only at h
        by_cases b5 : x_in x2 6
        · rw [if_pos b5] at h
          refine x_zald (pc := 13) C ar_45 b5 (d_M_named 8 rfl) ?_
          refine x_if_eq (pc := 14) (tgt := 27) C (d_M_named 9 rfl) (by decide) (fun c6 => ?_) (fun c6 => ?_)
          · rw [if_pos c6] at h
            refine x_iinc (pc := 27) (v := x2 + 1) (L2 := [(2, xI (x2 + 1)), (0, xR 32 (some (x0))), (1, xI (x1))]) C (d_M_named 16 rfl) 2 rfl rfl (by decide) rfl ?_
            refine x_goto (pc := 30) (tgt := 2) C (d_M_named 17 rfl) (by decide) ?_
            exact x_sub [1, 2, 0] rfl (ih _ _ _ _ h)
          · rw [if_neg c6] at h
            refine x_aload_n (pc := 17) C (d_M_named 10 rfl) rfl 0 rfl ?_
            refine x_getR (pc := 18) (t := 46) C fl_M_51 rfl rfl (d_M_named 11 rfl) ?_
            refine x_iload_n (pc := 21) C (d_M_named 12 rfl) rfl 2 rfl ?_
            cases c8 : st.2.2.1 32 x0 14 with
            | none => rw [c8] at h; cases h
            | some i7 =>
              rw [c8] at h
              dsimp only at h
              by_cases b9 : x_in x2 6
              · rw [if_pos b9] at h
                refine x_iald (pc := 22) C ar_46 b9 (d_M_named 13 rfl) ?_
                refine x_iload_n (pc := 23) C (d_M_named 14 rfl) rfl 1 rfl ?_
                refine x_icmp_eq (pc := 24) (tgt := 33) C (d_M_named 15 rfl) (by decide) (fun c10 => ?_) (fun c10 => ?_)
                · rw [if_pos c10] at h
                  refine x_iload_n (pc := 33) C (d_M_named 18 rfl) rfl 2 rfl ?_
                  refine x_bipush (pc := 34) (v := 6) C (by decide) (d_M_named 19 rfl) ?_
                  refine x_icmp_ge (pc := 36) (tgt := 43) C (d_M_named 20 rfl) (by decide) (fun c11 => ?_) (fun c11 => ?_)
                  · rw [if_pos c11] at h
                    refine x_iconst (pc := 43) (v := (-1)) C (by decide) (d_M_named 23 rfl) ?_
                    cases h
                    exact x_iret (pc := 44) C hret rfl (Nat.zero_le _) (Nat.zero_le _) (d_M_named 24 rfl)
                  · rw [if_neg c11] at h
                    refine x_iload_n (pc := 39) C (d_M_named 21 rfl) rfl 2 rfl ?_
                    refine x_goto (pc := 40) (tgt := 44) C (d_M_named 22 rfl) (by decide) ?_
                    cases h
                    exact x_iret (pc := 44) C hret rfl (Nat.zero_le _) (Nat.zero_le _) (d_M_named 24 rfl)
                · rw [if_neg c10] at h
                  refine x_iinc (pc := 27) (v := x2 + 1) (L2 := [(2, xI (x2 + 1)), (0, xR 32 (some (x0))), (1, xI (x1))]) C (d_M_named 16 rfl) 2 rfl rfl (by decide) rfl ?_
                  refine x_goto (pc := 30) (tgt := 2) C (d_M_named 17 rfl) (by decide) ?_
                  exact x_sub [1, 2, 0] rfl (ih _ _ _ _ h)
              · rw [if_neg b9] at h; cases h
        · rw [if_neg b5] at h; cases h
def f_M_named (x0 : Nat) (x1 : Int32) (st : XS) : Option Int32 :=
  f_M_named_2 100 x0 x1 0 st
set_option maxRecDepth 100000 in
set_option maxHeartbeats 4000000 in
theorem m_M_named (l : Launch) {x0 : Nat} {x1 : Int32} {st : XS} {r : Int32} (h : f_M_named x0 x1 st = some r) : x_M l M_M_named rm_M_named [xR 32 (some (x0)), xI (x1)] st (.inl (some (xI r))) st 0 0 := by
  refine x_enter (Nat.le_of_ble_eq_true rfl) ?_
  intro p e s m below meth c D cA g args B C
  have hret := B.2.2.2.2.2.2.2.2.1
  have hmn := B.2.2.2.2.2.2.2.1
  have hex := B.2.2.2.2.2.2.2.2.2.1
  unfold f_M_named at h
  refine x_iconst (pc := 0) (v := 0) C (by decide) (d_M_named 0 rfl) ?_
  refine x_istore_n (pc := 1) (L2 := [(2, xI (0)), (0, xR 32 (some (x0))), (1, xI (x1))]) C (d_M_named 1 rfl) rfl (by decide) rfl ?_
  exact x_sub [1, 2, 0] rfl (v_M_named_2 C hret hmn hex 100 _ _ _ _ h)
def f_M_freeFile_2  : Nat → Nat → Int32 → XS → Option Int32
  | 0, _, _, _ => none
  | n + 1, x0, x1, st =>
    if 6 ≤ x1 then
      if 6 ≤ x1 then
        some ((-1))
      else
        some (x1)
    else
      match st.2.2.1 32 x0 13 with
      | none => none
      | some i3 =>
        if x_in x1 6 then
          if (st.1 45 i3 x1.toNatClampNeg) = 0 then
            if 6 ≤ x1 then
              some ((-1))
            else
              some (x1)
          else
            f_M_freeFile_2 n x0 (x1 + 1) st
        else none
set_option maxRecDepth 100000 in
set_option maxHeartbeats 4000000 in
theorem v_M_freeFile_2 {p : Program} {l : Launch} {e : Env} {s : State} {m : MethodId} {args : Array Value} {below : List Frame} {meth : Method} {c : Code} {D : va_G} {cA : Nat → ClassId} {g0 : Nat → Nat → Nat} {n0 : Nat → Nat} {r : Int32} (C : x_C p e rm_M_freeFile s m args meth c D cA (x_A g0 n0 s.heap.size) M_M_freeFile.2.1 M_M_freeFile.1 M_M_freeFile.2.2.1) (hret : meth.sig.returnType = M_M_freeFile.2.2.2.1) (hmn : meth.name = M_M_freeFile.2.2.2.2.2) (hex : c.exceptionTable.toList.map (fun h => (h.startPc, h.endPc, h.handlerPc, h.catchType)) = M_M_freeFile.2.2.2.2.1)  : ∀ (n : Nat) (x0 : Nat) (x1 : Int32) (st : XS), f_M_freeFile_2 n x0 x1 st = some r → x_V p l e rm_M_freeFile s m args below meth c D cA (x_A g0 n0 s.heap.size) M_M_freeFile.2.2.1 g0 n0 (x_MQ D cA g0 n0 below s 0 0 (.inl (some (xI r))) st) 2 [(0, xR 32 (some (x0))), (1, xI (x1))] [] st 0 0 := by
  intro n
  induction n with
  | zero => intro x0 x1 st h; cases h
  | succ n ih =>
    intro x0 x1 st h
    rw [f_M_freeFile_2.eq_def] at h
    dsimp only at h
    refine x_iload_n (pc := 2) C (d_M_freeFile 2 rfl) rfl 1 rfl ?_
    refine x_bipush (pc := 3) (v := 6) C (by decide) (d_M_freeFile 3 rfl) ?_
    refine x_icmp_ge (pc := 5) (tgt := 23) C (d_M_freeFile 4 rfl) (by decide) (fun c1 => ?_) (fun c1 => ?_)
    · rw [if_pos c1] at h
      refine x_iload_n (pc := 23) C (d_M_freeFile 12 rfl) rfl 1 rfl ?_
      refine x_bipush (pc := 24) (v := 6) C (by decide) (d_M_freeFile 13 rfl) ?_
      refine x_icmp_ge (pc := 26) (tgt := 33) C (d_M_freeFile 14 rfl) (by decide) (fun c2 => ?_) (fun c2 => ?_)
      · rw [if_pos c2] at h
        refine x_iconst (pc := 33) (v := (-1)) C (by decide) (d_M_freeFile 17 rfl) ?_
        cases h
        exact x_iret (pc := 34) C hret rfl (Nat.zero_le _) (Nat.zero_le _) (d_M_freeFile 18 rfl)
      · rw [if_neg c2] at h
        refine x_iload_n (pc := 29) C (d_M_freeFile 15 rfl) rfl 1 rfl ?_
        refine x_goto (pc := 30) (tgt := 34) C (d_M_freeFile 16 rfl) (by decide) ?_
        cases h
        exact x_iret (pc := 34) C hret rfl (Nat.zero_le _) (Nat.zero_le _) (d_M_freeFile 18 rfl)
    · rw [if_neg c1] at h
      refine x_aload_n (pc := 8) C (d_M_freeFile 5 rfl) rfl 0 rfl ?_
      refine x_getR (pc := 9) (t := 45) C fl_M_48 rfl rfl (d_M_freeFile 6 rfl) ?_
      refine x_iload_n (pc := 12) C (d_M_freeFile 7 rfl) rfl 1 rfl ?_
      cases c4 : st.2.2.1 32 x0 13 with
      | none => rw [c4] at h; cases h
      | some i3 =>
        rw [c4] at h
        dsimp only at h
        by_cases b5 : x_in x1 6
        · rw [if_pos b5] at h
          refine x_zald (pc := 13) C ar_45 b5 (d_M_freeFile 8 rfl) ?_
          refine x_if_eq (pc := 14) (tgt := 23) C (d_M_freeFile 9 rfl) (by decide) (fun c6 => ?_) (fun c6 => ?_)
          · rw [if_pos c6] at h
            refine x_iload_n (pc := 23) C (d_M_freeFile 12 rfl) rfl 1 rfl ?_
            refine x_bipush (pc := 24) (v := 6) C (by decide) (d_M_freeFile 13 rfl) ?_
            refine x_icmp_ge (pc := 26) (tgt := 33) C (d_M_freeFile 14 rfl) (by decide) (fun c7 => ?_) (fun c7 => ?_)
            · rw [if_pos c7] at h
              refine x_iconst (pc := 33) (v := (-1)) C (by decide) (d_M_freeFile 17 rfl) ?_
              cases h
              exact x_iret (pc := 34) C hret rfl (Nat.zero_le _) (Nat.zero_le _) (d_M_freeFile 18 rfl)
            · rw [if_neg c7] at h
              refine x_iload_n (pc := 29) C (d_M_freeFile 15 rfl) rfl 1 rfl ?_
              refine x_goto (pc := 30) (tgt := 34) C (d_M_freeFile 16 rfl) (by decide) ?_
              cases h
              exact x_iret (pc := 34) C hret rfl (Nat.zero_le _) (Nat.zero_le _) (d_M_freeFile 18 rfl)
          · rw [if_neg c6] at h
            refine x_iinc (pc := 17) (v := x1 + 1) (L2 := [(1, xI (x1 + 1)), (0, xR 32 (some (x0)))]) C (d_M_freeFile 10 rfl) 1 rfl rfl (by decide) rfl ?_
            refine x_goto (pc := 20) (tgt := 2) C (d_M_freeFile 11 rfl) (by decide) ?_
            exact x_sub [1, 0] rfl (ih _ _ _ h)
        · rw [if_neg b5] at h; cases h
def f_M_freeFile (x0 : Nat) (st : XS) : Option Int32 :=
  f_M_freeFile_2 100 x0 0 st
set_option maxRecDepth 100000 in
set_option maxHeartbeats 4000000 in
theorem m_M_freeFile (l : Launch) {x0 : Nat} {st : XS} {r : Int32} (h : f_M_freeFile x0 st = some r) : x_M l M_M_freeFile rm_M_freeFile [xR 32 (some (x0))] st (.inl (some (xI r))) st 0 0 := by
  refine x_enter (Nat.le_of_ble_eq_true rfl) ?_
  intro p e s m below meth c D cA g args B C
  have hret := B.2.2.2.2.2.2.2.2.1
  have hmn := B.2.2.2.2.2.2.2.1
  have hex := B.2.2.2.2.2.2.2.2.2.1
  unfold f_M_freeFile at h
  refine x_iconst (pc := 0) (v := 0) C (by decide) (d_M_freeFile 0 rfl) ?_
  refine x_istore_n (pc := 1) (L2 := [(1, xI (0)), (0, xR 32 (some (x0)))]) C (d_M_freeFile 1 rfl) rfl (by decide) rfl ?_
  exact x_sub [1, 0] rfl (v_M_freeFile_2 C hret hmn hex 100 _ _ _ h)
def f_M_open_206  (x0 : Nat) (x1 : Int32) (x3 : Int32) (x5 : Int32) (st : XS) : Option (Int32 × XS) :=
  if (x3 &&& (32 : Int32)) ≤ 0 then
    match f_M_newOpening x0 3 x5 (x3 &&& (7 : Int32)) st with
    | none => none
    | some (v3, st4) =>
      match f_M_give x0 x1 v3 st4 with
      | none => none
      | some (v6, st7) =>
        some (v6, st7)
  else
    match st.2.2.1 32 x0 15 with
    | none => none
    | some i10 =>
      if x_in x5 6 then
        match f_M_newOpening x0 3 x5 (x3 &&& (7 : Int32)) (xsI st 47 i10 x5.toNatClampNeg 0) with
        | none => none
        | some (v14, st15) =>
          match f_M_give x0 x1 v14 st15 with
          | none => none
          | some (v17, st18) =>
            some (v17, st18)
      else none
set_option maxRecDepth 100000 in
set_option maxHeartbeats 4000000 in
theorem v_M_open_206 {p : Program} {l : Launch} {e : Env} {s : State} {m : MethodId} {args : Array Value} {below : List Frame} {meth : Method} {c : Code} {D : va_G} {cA : Nat → ClassId} {g0 : Nat → Nat → Nat} {n0 : Nat → Nat} {r : Int32} {st2 : XS} (C : x_C p e rm_M_open s m args meth c D cA (x_A g0 n0 s.heap.size) M_M_open.2.1 M_M_open.1 M_M_open.2.2.1) (hret : meth.sig.returnType = M_M_open.2.2.2.1) (hmn : meth.name = M_M_open.2.2.2.2.2) (hex : c.exceptionTable.toList.map (fun h => (h.startPc, h.endPc, h.handlerPc, h.catchType)) = M_M_open.2.2.2.2.1)  (x0 : Nat) (x1 : Int32) (x3 : Int32) (x5 : Int32) (st : XS) (h : f_M_open_206 x0 x1 x3 x5 st = some (r, st2)) : x_V p l e rm_M_open s m args below meth c D cA (x_A g0 n0 s.heap.size) M_M_open.2.2.1 g0 n0 (x_MQ D cA g0 n0 below s 0 0 (.inl (some (xI r))) st2) 206 [(0, xR 32 (some (x0))), (1, xI (x1)), (3, xI (x3)), (5, xI (x5))] [] st 0 0 := by
  unfold f_M_open_206 at h
  refine x_iload_n (pc := 206) C (d_M_open 113 rfl) rfl 2 rfl ?_
  refine x_bipush (pc := 207) (v := 32) C (by decide) (d_M_open 114 rfl) ?_
  refine x_iand (pc := 209) C (d_M_open 115 rfl) ?_
  refine x_if_le (pc := 210) (tgt := 221) C (d_M_open 116 rfl) (by decide) (fun c1 => ?_) (fun c1 => ?_)
  · rw [if_pos c1] at h
    refine x_aload_n (pc := 221) C (d_M_open 122 rfl) rfl 0 rfl ?_
    refine x_iload_n (pc := 222) C (d_M_open 123 rfl) rfl 1 rfl ?_
    refine x_aload_n (pc := 223) C (d_M_open 124 rfl) rfl 0 rfl ?_
    refine x_iconst (pc := 224) (v := 3) C (by decide) (d_M_open 125 rfl) ?_
    refine x_iload (pc := 225) C (d_M_open 126 rfl) 3 rfl ?_
    refine x_iload_n (pc := 227) C (d_M_open 127 rfl) rfl 2 rfl ?_
    refine x_bipush (pc := 228) (v := 7) C (by decide) (d_M_open 128 rfl) ?_
    refine x_iand (pc := 230) C (d_M_open 129 rfl) ?_
    cases c2 : f_M_newOpening x0 3 x5 (x3 &&& (7 : Int32)) st with
    | none => rw [c2] at h; cases h
    | some w9 =>
      obtain ⟨v3, st4⟩ := w9
      rw [c2] at h
      dsimp only at h
      refine x_callV (mc := 0) (ms := 0) (pc := 231) (bL := [xI (3), xI (x5), xI (x3 &&& (7 : Int32))]) (K := [xI (x1), xR 32 (some (x0))]) C cs_M_96 (m_M_newOpening l c2 : x_M l _ _ _ _ (.inl (some (xI v3))) _ 0 0) (by decide) rfl (Nat.le_of_ble_eq_true rfl) (d_M_open 130 rfl) ?_
      cases c5 : f_M_give x0 x1 v3 st4 with
      | none => rw [c5] at h; cases h
      | some w8 =>
        obtain ⟨v6, st7⟩ := w8
        rw [c5] at h
        dsimp only at h
        refine x_callV (mc := 0) (ms := 0) (pc := 234) (bL := [xI (x1), xI (v3)]) (K := []) C cs_M_100 (m_M_give l c5 : x_M l _ _ _ _ (.inl (some (xI v6))) _ 0 0) (by decide) rfl (Nat.le_of_ble_eq_true rfl) (d_M_open 131 rfl) ?_
        cases h
        exact x_iret (pc := 237) C hret rfl (Nat.zero_le _) (Nat.zero_le _) (d_M_open 132 rfl)
  · rw [if_neg c1] at h
    refine x_aload_n (pc := 213) C (d_M_open 117 rfl) rfl 0 rfl ?_
    refine x_getR (pc := 214) (t := 47) C fl_M_54 rfl rfl (d_M_open 118 rfl) ?_
    refine x_iload (pc := 217) C (d_M_open 119 rfl) 3 rfl ?_
    refine x_iconst (pc := 219) (v := 0) C (by decide) (d_M_open 120 rfl) ?_
    cases c11 : st.2.2.1 32 x0 15 with
    | none => rw [c11] at h; cases h
    | some i10 =>
      rw [c11] at h
      dsimp only at h
      by_cases b12 : x_in x5 6
      · rw [if_pos b12] at h
        refine x_iast (pc := 220) C ar_47 b12 (d_M_open 121 rfl) ?_
        refine x_aload_n (pc := 221) C (d_M_open 122 rfl) rfl 0 rfl ?_
        refine x_iload_n (pc := 222) C (d_M_open 123 rfl) rfl 1 rfl ?_
        refine x_aload_n (pc := 223) C (d_M_open 124 rfl) rfl 0 rfl ?_
        refine x_iconst (pc := 224) (v := 3) C (by decide) (d_M_open 125 rfl) ?_
        refine x_iload (pc := 225) C (d_M_open 126 rfl) 3 rfl ?_
        refine x_iload_n (pc := 227) C (d_M_open 127 rfl) rfl 2 rfl ?_
        refine x_bipush (pc := 228) (v := 7) C (by decide) (d_M_open 128 rfl) ?_
        refine x_iand (pc := 230) C (d_M_open 129 rfl) ?_
        cases c13 : f_M_newOpening x0 3 x5 (x3 &&& (7 : Int32)) (xsI st 47 i10 x5.toNatClampNeg 0) with
        | none => rw [c13] at h; cases h
        | some w20 =>
          obtain ⟨v14, st15⟩ := w20
          rw [c13] at h
          dsimp only at h
          refine x_callV (mc := 0) (ms := 0) (pc := 231) (bL := [xI (3), xI (x5), xI (x3 &&& (7 : Int32))]) (K := [xI (x1), xR 32 (some (x0))]) C cs_M_96 (m_M_newOpening l c13 : x_M l _ _ _ _ (.inl (some (xI v14))) _ 0 0) (by decide) rfl (Nat.le_of_ble_eq_true rfl) (d_M_open 130 rfl) ?_
          cases c16 : f_M_give x0 x1 v14 st15 with
          | none => rw [c16] at h; cases h
          | some w19 =>
            obtain ⟨v17, st18⟩ := w19
            rw [c16] at h
            dsimp only at h
            refine x_callV (mc := 0) (ms := 0) (pc := 234) (bL := [xI (x1), xI (v14)]) (K := []) C cs_M_100 (m_M_give l c16 : x_M l _ _ _ _ (.inl (some (xI v17))) _ 0 0) (by decide) rfl (Nat.le_of_ble_eq_true rfl) (d_M_open 131 rfl) ?_
            cases h
            exact x_iret (pc := 237) C hret rfl (Nat.zero_le _) (Nat.zero_le _) (d_M_open 132 rfl)
      · rw [if_neg b12] at h; cases h
def f_M_open_171  (x0 : Nat) (x1 : Int32) (x2 : Int32) (x3 : Int32) (x5 : Int32) (st : XS) : Option (Int32 × XS) :=
  if 0 ≤ x5 then
    f_M_open_206 x0 x1 x3 x5 st
  else
    match f_M_freeFile x0 st with
    | none => none
    | some v23 =>
      match st.2.2.1 32 x0 13 with
      | none => none
      | some i24 =>
        if x_in v23 6 then
          match (xsI st 45 i24 v23.toNatClampNeg ((1 : Int32) &&& 1)).2.2.1 32 x0 14 with
          | none => none
          | some i27 =>
            if x_in v23 6 then
              match (xsI (xsI st 45 i24 v23.toNatClampNeg ((1 : Int32) &&& 1)) 46 i27 v23.toNatClampNeg x2).2.2.1 32 x0 15 with
              | none => none
              | some i30 =>
                if x_in v23 6 then
                  f_M_open_206 x0 x1 x3 v23 (xsI (xsI (xsI st 45 i24 v23.toNatClampNeg ((1 : Int32) &&& 1)) 46 i27 v23.toNatClampNeg x2) 47 i30 v23.toNatClampNeg 0)
                else none
            else none
        else none
set_option maxRecDepth 100000 in
set_option maxHeartbeats 4000000 in
theorem v_M_open_171 {p : Program} {l : Launch} {e : Env} {s : State} {m : MethodId} {args : Array Value} {below : List Frame} {meth : Method} {c : Code} {D : va_G} {cA : Nat → ClassId} {g0 : Nat → Nat → Nat} {n0 : Nat → Nat} {r : Int32} {st2 : XS} (C : x_C p e rm_M_open s m args meth c D cA (x_A g0 n0 s.heap.size) M_M_open.2.1 M_M_open.1 M_M_open.2.2.1) (hret : meth.sig.returnType = M_M_open.2.2.2.1) (hmn : meth.name = M_M_open.2.2.2.2.2) (hex : c.exceptionTable.toList.map (fun h => (h.startPc, h.endPc, h.handlerPc, h.catchType)) = M_M_open.2.2.2.2.1)  (x0 : Nat) (x1 : Int32) (x2 : Int32) (x3 : Int32) (x5 : Int32) (st : XS) (h : f_M_open_171 x0 x1 x2 x3 x5 st = some (r, st2)) : x_V p l e rm_M_open s m args below meth c D cA (x_A g0 n0 s.heap.size) M_M_open.2.2.1 g0 n0 (x_MQ D cA g0 n0 below s 0 0 (.inl (some (xI r))) st2) 171 [(0, xR 32 (some (x0))), (1, xI (x1)), (2, xI (x2)), (3, xI (x3)), (5, xI (x5))] [] st 0 0 := by
  unfold f_M_open_171 at h
  refine x_iload (pc := 171) C (d_M_open 93 rfl) 4 rfl ?_
  refine x_if_ge (pc := 173) (tgt := 206) C (d_M_open 94 rfl) (by decide) (fun c21 => ?_) (fun c21 => ?_)
  · rw [if_pos c21] at h
    exact x_sub [0, 1, 3, 4] rfl (v_M_open_206 C hret hmn hex _ _ _ _ _ h)
  · rw [if_neg c21] at h
    refine x_aload_n (pc := 176) C (d_M_open 95 rfl) rfl 0 rfl ?_
    cases c22 : f_M_freeFile x0 st with
    | none => rw [c22] at h; cases h
    | some v23 =>
      rw [c22] at h
      dsimp only at h
      refine x_callV (mc := 0) (ms := 0) (pc := 177) (bL := []) (K := []) C cs_M_130 (m_M_freeFile l c22 : x_M l _ _ _ _ (.inl (some (xI v23))) _ 0 0) (by decide) rfl (Nat.le_of_ble_eq_true rfl) (d_M_open 96 rfl) ?_
      refine x_istore (pc := 180) (L2 := [(5, xI (v23)), (0, xR 32 (some (x0))), (1, xI (x1)), (2, xI (x2)), (3, xI (x3))]) C (d_M_open 97 rfl) (by decide) rfl ?_
      refine x_aload_n (pc := 182) C (d_M_open 98 rfl) rfl 1 rfl ?_
      refine x_getR (pc := 183) (t := 45) C fl_M_48 rfl rfl (d_M_open 99 rfl) ?_
      refine x_iload (pc := 186) C (d_M_open 100 rfl) 0 rfl ?_
      refine x_iconst (pc := 188) (v := 1) C (by decide) (d_M_open 101 rfl) ?_
      cases c25 : st.2.2.1 32 x0 13 with
      | none => rw [c25] at h; cases h
      | some i24 =>
        rw [c25] at h
        dsimp only at h
        by_cases b26 : x_in v23 6
        · rw [if_pos b26] at h
          refine x_zast (pc := 189) C ar_45 b26 (d_M_open 102 rfl) ?_
          refine x_aload_n (pc := 190) C (d_M_open 103 rfl) rfl 1 rfl ?_
          refine x_getR (pc := 191) (t := 46) C fl_M_51 rfl rfl (d_M_open 104 rfl) ?_
          refine x_iload (pc := 194) C (d_M_open 105 rfl) 0 rfl ?_
          refine x_iload_n (pc := 196) C (d_M_open 106 rfl) rfl 3 rfl ?_
          cases c28 : (xsI st 45 i24 v23.toNatClampNeg ((1 : Int32) &&& 1)).2.2.1 32 x0 14 with
          | none => rw [c28] at h; cases h
          | some i27 =>
            rw [c28] at h
            dsimp only at h
            by_cases b29 : x_in v23 6
            · rw [if_pos b29] at h
              refine x_iast (pc := 197) C ar_46 b29 (d_M_open 107 rfl) ?_
              refine x_aload_n (pc := 198) C (d_M_open 108 rfl) rfl 1 rfl ?_
              refine x_getR (pc := 199) (t := 47) C fl_M_54 rfl rfl (d_M_open 109 rfl) ?_
              refine x_iload (pc := 202) C (d_M_open 110 rfl) 0 rfl ?_
              refine x_iconst (pc := 204) (v := 0) C (by decide) (d_M_open 111 rfl) ?_
              cases c31 : (xsI (xsI st 45 i24 v23.toNatClampNeg ((1 : Int32) &&& 1)) 46 i27 v23.toNatClampNeg x2).2.2.1 32 x0 15 with
              | none => rw [c31] at h; cases h
              | some i30 =>
                rw [c31] at h
                dsimp only at h
                by_cases b32 : x_in v23 6
                · rw [if_pos b32] at h
                  refine x_iast (pc := 205) C ar_47 b32 (d_M_open 112 rfl) ?_
                  exact x_sub [1, 2, 4, 0] rfl (v_M_open_206 C hret hmn hex _ _ _ _ _ h)
                · rw [if_neg b32] at h; cases h
            · rw [if_neg b29] at h; cases h
        · rw [if_neg b26] at h; cases h
def f_M_open_141  (x0 : Nat) (x1 : Int32) (x2 : Int32) (x3 : Int32) (x5 : Int32) (st : XS) : Option (Int32 × XS) :=
  match f_M_freeDescriptor x0 x1 st with
  | none => none
  | some v35 =>
    if v35 < 0 then
      some ((-4), st)
    else
      match f_M_freeOpening x0 st with
      | none => none
      | some v38 =>
        if v38 < 0 then
          some ((-4), st)
        else
          if 0 ≤ x5 then
            f_M_open_171 x0 x1 x2 x3 x5 st
          else
            match f_M_freeFile x0 st with
            | none => none
            | some v42 =>
              if 0 ≤ v42 then
                f_M_open_171 x0 x1 x2 x3 x5 st
              else
                some ((-4), st)
set_option maxRecDepth 100000 in
set_option maxHeartbeats 4000000 in
theorem v_M_open_141 {p : Program} {l : Launch} {e : Env} {s : State} {m : MethodId} {args : Array Value} {below : List Frame} {meth : Method} {c : Code} {D : va_G} {cA : Nat → ClassId} {g0 : Nat → Nat → Nat} {n0 : Nat → Nat} {r : Int32} {st2 : XS} (C : x_C p e rm_M_open s m args meth c D cA (x_A g0 n0 s.heap.size) M_M_open.2.1 M_M_open.1 M_M_open.2.2.1) (hret : meth.sig.returnType = M_M_open.2.2.2.1) (hmn : meth.name = M_M_open.2.2.2.2.2) (hex : c.exceptionTable.toList.map (fun h => (h.startPc, h.endPc, h.handlerPc, h.catchType)) = M_M_open.2.2.2.2.1)  (x0 : Nat) (x1 : Int32) (x2 : Int32) (x3 : Int32) (x5 : Int32) (st : XS) (h : f_M_open_141 x0 x1 x2 x3 x5 st = some (r, st2)) : x_V p l e rm_M_open s m args below meth c D cA (x_A g0 n0 s.heap.size) M_M_open.2.2.1 g0 n0 (x_MQ D cA g0 n0 below s 0 0 (.inl (some (xI r))) st2) 141 [(0, xR 32 (some (x0))), (1, xI (x1)), (2, xI (x2)), (3, xI (x3)), (5, xI (x5))] [] st 0 0 := by
  unfold f_M_open_141 at h
  refine x_aload_n (pc := 141) C (d_M_open 79 rfl) rfl 0 rfl ?_
  refine x_iload_n (pc := 142) C (d_M_open 80 rfl) rfl 1 rfl ?_
  cases c34 : f_M_freeDescriptor x0 x1 st with
  | none => rw [c34] at h; cases h
  | some v35 =>
    rw [c34] at h
    dsimp only at h
    refine x_callV (mc := 0) (ms := 0) (pc := 143) (bL := [xI (x1)]) (K := []) C cs_M_86 (m_M_freeDescriptor l c34 : x_M l _ _ _ _ (.inl (some (xI v35))) _ 0 0) (by decide) rfl (Nat.le_of_ble_eq_true rfl) (d_M_open 81 rfl) ?_
    refine x_if_lt (pc := 146) (tgt := 168) C (d_M_open 82 rfl) (by decide) (fun c36 => ?_) (fun c36 => ?_)
    · rw [if_pos c36] at h
      refine x_bipush (pc := 168) (v := (-4)) C (by decide) (d_M_open 91 rfl) ?_
      cases h
      exact x_iret (pc := 170) C hret rfl (Nat.zero_le _) (Nat.zero_le _) (d_M_open 92 rfl)
    · rw [if_neg c36] at h
      refine x_aload_n (pc := 149) C (d_M_open 83 rfl) rfl 0 rfl ?_
      cases c37 : f_M_freeOpening x0 st with
      | none => rw [c37] at h; cases h
      | some v38 =>
        rw [c37] at h
        dsimp only at h
        refine x_callV (mc := 0) (ms := 0) (pc := 150) (bL := []) (K := []) C cs_M_82 (m_M_freeOpening l c37 : x_M l _ _ _ _ (.inl (some (xI v38))) _ 0 0) (by decide) rfl (Nat.le_of_ble_eq_true rfl) (d_M_open 84 rfl) ?_
        refine x_if_lt (pc := 153) (tgt := 168) C (d_M_open 85 rfl) (by decide) (fun c39 => ?_) (fun c39 => ?_)
        · rw [if_pos c39] at h
          refine x_bipush (pc := 168) (v := (-4)) C (by decide) (d_M_open 91 rfl) ?_
          cases h
          exact x_iret (pc := 170) C hret rfl (Nat.zero_le _) (Nat.zero_le _) (d_M_open 92 rfl)
        · rw [if_neg c39] at h
          refine x_iload (pc := 156) C (d_M_open 86 rfl) 4 rfl ?_
          refine x_if_ge (pc := 158) (tgt := 171) C (d_M_open 87 rfl) (by decide) (fun c40 => ?_) (fun c40 => ?_)
          · rw [if_pos c40] at h
            exact x_sub [0, 1, 2, 3, 4] rfl (v_M_open_171 C hret hmn hex _ _ _ _ _ _ h)
          · rw [if_neg c40] at h
            refine x_aload_n (pc := 161) C (d_M_open 88 rfl) rfl 0 rfl ?_
            cases c41 : f_M_freeFile x0 st with
            | none => rw [c41] at h; cases h
            | some v42 =>
              rw [c41] at h
              dsimp only at h
              refine x_callV (mc := 0) (ms := 0) (pc := 162) (bL := []) (K := []) C cs_M_130 (m_M_freeFile l c41 : x_M l _ _ _ _ (.inl (some (xI v42))) _ 0 0) (by decide) rfl (Nat.le_of_ble_eq_true rfl) (d_M_open 89 rfl) ?_
              refine x_if_ge (pc := 165) (tgt := 171) C (d_M_open 90 rfl) (by decide) (fun c43 => ?_) (fun c43 => ?_)
              · rw [if_pos c43] at h
                exact x_sub [0, 1, 2, 3, 4] rfl (v_M_open_171 C hret hmn hex _ _ _ _ _ _ h)
              · rw [if_neg c43] at h
                refine x_bipush (pc := 168) (v := (-4)) C (by decide) (d_M_open 91 rfl) ?_
                cases h
                exact x_iret (pc := 170) C hret rfl (Nat.zero_le _) (Nat.zero_le _) (d_M_open 92 rfl)
def f_M_open_96  (x0 : Nat) (x1 : Int32) (x2 : Int32) (x3 : Int32) (s0 : Int32) (s1 : Int32) (s2 : Option Nat) (st : XS) : Option (Int32 × XS) :=
  match s2 with
  | none => none
  | some i47 =>
    match f_M_fails i47 s1 s0 st with
    | none => none
    | some (v50, st51) =>
      if v50 = 0 then
        match f_M_named x0 x2 st51 with
        | none => none
        | some v54 =>
          if 0 ≤ v54 then
            if v54 < 0 then
              f_M_open_141 x0 x1 x2 x3 v54 st51
            else
              if (x3 &&& (16 : Int32)) ≤ 0 then
                f_M_open_141 x0 x1 x2 x3 v54 st51
              else
                some ((-3), st51)
          else
            if (x3 &&& (8 : Int32)) = 0 then
              some ((-2), st51)
            else
              if v54 < 0 then
                f_M_open_141 x0 x1 x2 x3 v54 st51
              else
                if (x3 &&& (16 : Int32)) ≤ 0 then
                  f_M_open_141 x0 x1 x2 x3 v54 st51
                else
                  some ((-3), st51)
      else
        some (0, st51)
set_option maxRecDepth 100000 in
set_option maxHeartbeats 4000000 in
theorem v_M_open_96 {p : Program} {l : Launch} {e : Env} {s : State} {m : MethodId} {args : Array Value} {below : List Frame} {meth : Method} {c : Code} {D : va_G} {cA : Nat → ClassId} {g0 : Nat → Nat → Nat} {n0 : Nat → Nat} {r : Int32} {st2 : XS} (C : x_C p e rm_M_open s m args meth c D cA (x_A g0 n0 s.heap.size) M_M_open.2.1 M_M_open.1 M_M_open.2.2.1) (hret : meth.sig.returnType = M_M_open.2.2.2.1) (hmn : meth.name = M_M_open.2.2.2.2.2) (hex : c.exceptionTable.toList.map (fun h => (h.startPc, h.endPc, h.handlerPc, h.catchType)) = M_M_open.2.2.2.2.1)  (x0 : Nat) (x1 : Int32) (x2 : Int32) (x3 : Int32) (s0 : Int32) (s1 : Int32) (s2 : Option Nat) (st : XS) (h : f_M_open_96 x0 x1 x2 x3 s0 s1 s2 st = some (r, st2)) : x_V p l e rm_M_open s m args below meth c D cA (x_A g0 n0 s.heap.size) M_M_open.2.2.1 g0 n0 (x_MQ D cA g0 n0 below s 0 0 (.inl (some (xI r))) st2) 96 [(0, xR 32 (some (x0))), (1, xI (x1)), (2, xI (x2)), (3, xI (x3))] [xI (s0), xI (s1), xR 32 (s2)] st 0 0 := by
  unfold f_M_open_96 at h
  cases c48 : s2 with
  | none => rw [c48] at h; cases h
  | some i47 =>
    rw [c48] at h
    dsimp only at h
    cases c49 : f_M_fails i47 s1 s0 st with
    | none => rw [c49] at h; cases h
    | some w62 =>
      obtain ⟨v50, st51⟩ := w62
      rw [c49] at h
      dsimp only at h
      refine x_callV (mc := 0) (ms := 0) (pc := 96) (bL := [xI (s1), xI (s0)]) (K := []) C cs_M_107 (m_M_fails l c49 : x_M l _ _ _ _ (.inl (some (xI v50))) _ 0 0) (by decide) rfl (Nat.le_of_ble_eq_true rfl) (d_M_open 55 rfl) ?_
      refine x_if_eq (pc := 99) (tgt := 104) C (d_M_open 56 rfl) (by decide) (fun c52 => ?_) (fun c52 => ?_)
      · rw [if_pos c52] at h
        refine x_aload_n (pc := 104) C (d_M_open 59 rfl) rfl 0 rfl ?_
        refine x_iload_n (pc := 105) C (d_M_open 60 rfl) rfl 2 rfl ?_
        cases c53 : f_M_named x0 x2 st51 with
        | none => rw [c53] at h; cases h
        | some v54 =>
          rw [c53] at h
          dsimp only at h
          refine x_callV (mc := 0) (ms := 0) (pc := 106) (bL := [xI (x2)]) (K := []) C cs_M_127 (m_M_named l c53 : x_M l _ _ _ _ (.inl (some (xI v54))) _ 0 0) (by decide) rfl (Nat.le_of_ble_eq_true rfl) (d_M_open 61 rfl) ?_
          refine x_istore (pc := 109) (L2 := [(5, xI (v54)), (0, xR 32 (some (x0))), (1, xI (x1)), (2, xI (x2)), (3, xI (x3))]) C (d_M_open 62 rfl) (by decide) rfl ?_
          refine x_iload (pc := 111) C (d_M_open 63 rfl) 0 rfl ?_
          refine x_if_ge (pc := 113) (tgt := 126) C (d_M_open 64 rfl) (by decide) (fun c55 => ?_) (fun c55 => ?_)
          · rw [if_pos c55] at h
            refine x_iload (pc := 126) C (d_M_open 71 rfl) 0 rfl ?_
            refine x_if_lt (pc := 128) (tgt := 141) C (d_M_open 72 rfl) (by decide) (fun c56 => ?_) (fun c56 => ?_)
            · rw [if_pos c56] at h
              exact x_sub [1, 2, 3, 4, 0] rfl (v_M_open_141 C hret hmn hex _ _ _ _ _ _ h)
            · rw [if_neg c56] at h
              refine x_iload_n (pc := 131) C (d_M_open 73 rfl) rfl 4 rfl ?_
              refine x_bipush (pc := 132) (v := 16) C (by decide) (d_M_open 74 rfl) ?_
              refine x_iand (pc := 134) C (d_M_open 75 rfl) ?_
              refine x_if_le (pc := 135) (tgt := 141) C (d_M_open 76 rfl) (by decide) (fun c57 => ?_) (fun c57 => ?_)
              · rw [if_pos c57] at h
                exact x_sub [1, 2, 3, 4, 0] rfl (v_M_open_141 C hret hmn hex _ _ _ _ _ _ h)
              · rw [if_neg c57] at h
                refine x_bipush (pc := 138) (v := (-3)) C (by decide) (d_M_open 77 rfl) ?_
                cases h
                exact x_iret (pc := 140) C hret rfl (Nat.zero_le _) (Nat.zero_le _) (d_M_open 78 rfl)
          · rw [if_neg c55] at h
            refine x_iload_n (pc := 116) C (d_M_open 65 rfl) rfl 4 rfl ?_
            refine x_bipush (pc := 117) (v := 8) C (by decide) (d_M_open 66 rfl) ?_
            refine x_iand (pc := 119) C (d_M_open 67 rfl) ?_
            refine x_if_ne (pc := 120) (tgt := 126) C (d_M_open 68 rfl) (by decide) (fun c58 => ?_) (fun c58 => ?_)
            · rw [if_neg c58] at h
              refine x_iload (pc := 126) C (d_M_open 71 rfl) 0 rfl ?_
              refine x_if_lt (pc := 128) (tgt := 141) C (d_M_open 72 rfl) (by decide) (fun c59 => ?_) (fun c59 => ?_)
              · rw [if_pos c59] at h
                exact x_sub [1, 2, 3, 4, 0] rfl (v_M_open_141 C hret hmn hex _ _ _ _ _ _ h)
              · rw [if_neg c59] at h
                refine x_iload_n (pc := 131) C (d_M_open 73 rfl) rfl 4 rfl ?_
                refine x_bipush (pc := 132) (v := 16) C (by decide) (d_M_open 74 rfl) ?_
                refine x_iand (pc := 134) C (d_M_open 75 rfl) ?_
                refine x_if_le (pc := 135) (tgt := 141) C (d_M_open 76 rfl) (by decide) (fun c60 => ?_) (fun c60 => ?_)
                · rw [if_pos c60] at h
                  exact x_sub [1, 2, 3, 4, 0] rfl (v_M_open_141 C hret hmn hex _ _ _ _ _ _ h)
                · rw [if_neg c60] at h
                  refine x_bipush (pc := 138) (v := (-3)) C (by decide) (d_M_open 77 rfl) ?_
                  cases h
                  exact x_iret (pc := 140) C hret rfl (Nat.zero_le _) (Nat.zero_le _) (d_M_open 78 rfl)
            · rw [if_pos c58] at h
              refine x_bipush (pc := 123) (v := (-2)) C (by decide) (d_M_open 69 rfl) ?_
              cases h
              exact x_iret (pc := 125) C hret rfl (Nat.zero_le _) (Nat.zero_le _) (d_M_open 70 rfl)
      · rw [if_neg c52] at h
        refine x_iconst (pc := 102) (v := 0) C (by decide) (d_M_open 57 rfl) ?_
        cases h
        exact x_iret (pc := 103) C hret rfl (Nat.zero_le _) (Nat.zero_le _) (d_M_open 58 rfl)
def f_M_open_76  (x0 : Nat) (x1 : Int32) (x2 : Int32) (x3 : Int32) (x4 : Int32) (s0 : Int32) (s1 : Option Nat) (st : XS) : Option (Int32 × XS) :=
  match f_M_in x2 1 9 st with
  | none => none
  | some v64 =>
    if v64 = 0 then
      f_M_open_96 x0 x1 x2 x3 1 s0 (s1) st
    else
      if x4 = 0 then
        f_M_open_96 x0 x1 x2 x3 1 s0 (s1) st
      else
        f_M_open_96 x0 x1 x2 x3 0 s0 (s1) st
set_option maxRecDepth 100000 in
set_option maxHeartbeats 4000000 in
theorem v_M_open_76 {p : Program} {l : Launch} {e : Env} {s : State} {m : MethodId} {args : Array Value} {below : List Frame} {meth : Method} {c : Code} {D : va_G} {cA : Nat → ClassId} {g0 : Nat → Nat → Nat} {n0 : Nat → Nat} {r : Int32} {st2 : XS} (C : x_C p e rm_M_open s m args meth c D cA (x_A g0 n0 s.heap.size) M_M_open.2.1 M_M_open.1 M_M_open.2.2.1) (hret : meth.sig.returnType = M_M_open.2.2.2.1) (hmn : meth.name = M_M_open.2.2.2.2.2) (hex : c.exceptionTable.toList.map (fun h => (h.startPc, h.endPc, h.handlerPc, h.catchType)) = M_M_open.2.2.2.2.1)  (x0 : Nat) (x1 : Int32) (x2 : Int32) (x3 : Int32) (x4 : Int32) (s0 : Int32) (s1 : Option Nat) (st : XS) (h : f_M_open_76 x0 x1 x2 x3 x4 s0 s1 st = some (r, st2)) : x_V p l e rm_M_open s m args below meth c D cA (x_A g0 n0 s.heap.size) M_M_open.2.2.1 g0 n0 (x_MQ D cA g0 n0 below s 0 0 (.inl (some (xI r))) st2) 76 [(0, xR 32 (some (x0))), (1, xI (x1)), (2, xI (x2)), (3, xI (x3)), (4, xI (x4))] [xI (s0), xR 32 (s1)] st 0 0 := by
  unfold f_M_open_76 at h
  refine x_iload_n (pc := 76) C (d_M_open 45 rfl) rfl 2 rfl ?_
  refine x_iconst (pc := 77) (v := 1) C (by decide) (d_M_open 46 rfl) ?_
  refine x_bipush (pc := 78) (v := 9) C (by decide) (d_M_open 47 rfl) ?_
  cases c63 : f_M_in x2 1 9 st with
  | none => rw [c63] at h; cases h
  | some v64 =>
    rw [c63] at h
    dsimp only at h
    refine x_callS (mc := 0) (ms := 0) (pc := 80) (aL := [xI (x2), xI (1), xI (9)]) (K := [xI (s0), xR 32 (s1)]) C cs_M_70 (m_M_in l c63 : x_M l _ _ _ _ (.inl (some (xI v64))) _ 0 0) (by decide) rfl (Nat.le_of_ble_eq_true rfl) (d_M_open 48 rfl) ?_
    refine x_if_eq (pc := 83) (tgt := 91) C (d_M_open 49 rfl) (by decide) (fun c65 => ?_) (fun c65 => ?_)
    · rw [if_pos c65] at h
      refine x_iconst (pc := 91) (v := 1) C (by decide) (d_M_open 52 rfl) ?_
      refine x_goto (pc := 92) (tgt := 96) C (d_M_open 53 rfl) (by decide) ?_
      exact x_sub [0, 1, 2, 3] rfl (v_M_open_96 C hret hmn hex _ _ _ _ _ _ _ _ h)
    · rw [if_neg c65] at h
      refine x_iload (pc := 86) C (d_M_open 50 rfl) 4 rfl ?_
      refine x_if_ne (pc := 88) (tgt := 95) C (d_M_open 51 rfl) (by decide) (fun c66 => ?_) (fun c66 => ?_)
      · rw [if_neg c66] at h
        refine x_iconst (pc := 95) (v := 0) C (by decide) (d_M_open 54 rfl) ?_
        exact x_sub [0, 1, 2, 3] rfl (v_M_open_96 C hret hmn hex _ _ _ _ _ _ _ _ h)
      · rw [if_pos c66] at h
        refine x_iconst (pc := 91) (v := 1) C (by decide) (d_M_open 52 rfl) ?_
        refine x_goto (pc := 92) (tgt := 96) C (d_M_open 53 rfl) (by decide) ?_
        exact x_sub [0, 1, 2, 3] rfl (v_M_open_96 C hret hmn hex _ _ _ _ _ _ _ _ h)
def f_M_open_42  (x0 : Nat) (x1 : Int32) (x2 : Int32) (x3 : Int32) (st : XS) : Option (Int32 × XS) :=
  if (x3 &&& (32 : Int32)) = 0 then
    match f_M_isReady x0 x1 st with
    | none => none
    | some v70 =>
      if v70 = 0 then
        f_M_open_76 x0 x1 x2 x3 1 1 (some (x0)) st
      else
        f_M_open_76 x0 x1 x2 x3 1 0 (some (x0)) st
  else
    if (x3 &&& (2 : Int32)) ≤ 0 then
      match f_M_isReady x0 x1 st with
      | none => none
      | some v75 =>
        if v75 = 0 then
          f_M_open_76 x0 x1 x2 x3 0 1 (some (x0)) st
        else
          f_M_open_76 x0 x1 x2 x3 0 0 (some (x0)) st
    else
      match f_M_isReady x0 x1 st with
      | none => none
      | some v79 =>
        if v79 = 0 then
          f_M_open_76 x0 x1 x2 x3 1 1 (some (x0)) st
        else
          f_M_open_76 x0 x1 x2 x3 1 0 (some (x0)) st
set_option maxRecDepth 100000 in
set_option maxHeartbeats 4000000 in
theorem v_M_open_42 {p : Program} {l : Launch} {e : Env} {s : State} {m : MethodId} {args : Array Value} {below : List Frame} {meth : Method} {c : Code} {D : va_G} {cA : Nat → ClassId} {g0 : Nat → Nat → Nat} {n0 : Nat → Nat} {r : Int32} {st2 : XS} (C : x_C p e rm_M_open s m args meth c D cA (x_A g0 n0 s.heap.size) M_M_open.2.1 M_M_open.1 M_M_open.2.2.1) (hret : meth.sig.returnType = M_M_open.2.2.2.1) (hmn : meth.name = M_M_open.2.2.2.2.2) (hex : c.exceptionTable.toList.map (fun h => (h.startPc, h.endPc, h.handlerPc, h.catchType)) = M_M_open.2.2.2.2.1)  (x0 : Nat) (x1 : Int32) (x2 : Int32) (x3 : Int32) (st : XS) (h : f_M_open_42 x0 x1 x2 x3 st = some (r, st2)) : x_V p l e rm_M_open s m args below meth c D cA (x_A g0 n0 s.heap.size) M_M_open.2.2.1 g0 n0 (x_MQ D cA g0 n0 below s 0 0 (.inl (some (xI r))) st2) 42 [(0, xR 32 (some (x0))), (1, xI (x1)), (2, xI (x2)), (3, xI (x3))] [] st 0 0 := by
  unfold f_M_open_42 at h
  refine x_iload_n (pc := 42) C (d_M_open 25 rfl) rfl 3 rfl ?_
  refine x_bipush (pc := 43) (v := 32) C (by decide) (d_M_open 26 rfl) ?_
  refine x_iand (pc := 45) C (d_M_open 27 rfl) ?_
  refine x_if_eq (pc := 46) (tgt := 55) C (d_M_open 28 rfl) (by decide) (fun c68 => ?_) (fun c68 => ?_)
  · rw [if_pos c68] at h
    refine x_iconst (pc := 55) (v := 1) C (by decide) (d_M_open 33 rfl) ?_
    refine x_goto (pc := 56) (tgt := 60) C (d_M_open 34 rfl) (by decide) ?_
    refine x_istore (pc := 60) (L2 := [(4, xI (1)), (0, xR 32 (some (x0))), (1, xI (x1)), (2, xI (x2)), (3, xI (x3))]) C (d_M_open 36 rfl) (by decide) rfl ?_
    refine x_aload_n (pc := 62) C (d_M_open 37 rfl) rfl 1 rfl ?_
    refine x_aload_n (pc := 63) C (d_M_open 38 rfl) rfl 1 rfl ?_
    refine x_iload_n (pc := 64) C (d_M_open 39 rfl) rfl 2 rfl ?_
    cases c69 : f_M_isReady x0 x1 st with
    | none => rw [c69] at h; cases h
    | some v70 =>
      rw [c69] at h
      dsimp only at h
      refine x_callV (mc := 0) (ms := 0) (pc := 65) (bL := [xI (x1)]) (K := [xR 32 (some (x0))]) C cs_M_103 (m_M_isReady l c69 : x_M l _ _ _ _ (.inl (some (xI v70))) _ 0 0) (by decide) rfl (Nat.le_of_ble_eq_true rfl) (d_M_open 40 rfl) ?_
      refine x_if_ne (pc := 68) (tgt := 75) C (d_M_open 41 rfl) (by decide) (fun c71 => ?_) (fun c71 => ?_)
      · rw [if_neg c71] at h
        refine x_iconst (pc := 75) (v := 0) C (by decide) (d_M_open 44 rfl) ?_
        exact x_sub [1, 2, 3, 4, 0] rfl (v_M_open_76 C hret hmn hex _ _ _ _ _ _ _ _ h)
      · rw [if_pos c71] at h
        refine x_iconst (pc := 71) (v := 1) C (by decide) (d_M_open 42 rfl) ?_
        refine x_goto (pc := 72) (tgt := 76) C (d_M_open 43 rfl) (by decide) ?_
        exact x_sub [1, 2, 3, 4, 0] rfl (v_M_open_76 C hret hmn hex _ _ _ _ _ _ _ _ h)
  · rw [if_neg c68] at h
    refine x_iload_n (pc := 49) C (d_M_open 29 rfl) rfl 3 rfl ?_
    refine x_iconst (pc := 50) (v := 2) C (by decide) (d_M_open 30 rfl) ?_
    refine x_iand (pc := 51) C (d_M_open 31 rfl) ?_
    refine x_if_le (pc := 52) (tgt := 59) C (d_M_open 32 rfl) (by decide) (fun c73 => ?_) (fun c73 => ?_)
    · rw [if_pos c73] at h
      refine x_iconst (pc := 59) (v := 0) C (by decide) (d_M_open 35 rfl) ?_
      refine x_istore (pc := 60) (L2 := [(4, xI (0)), (0, xR 32 (some (x0))), (1, xI (x1)), (2, xI (x2)), (3, xI (x3))]) C (d_M_open 36 rfl) (by decide) rfl ?_
      refine x_aload_n (pc := 62) C (d_M_open 37 rfl) rfl 1 rfl ?_
      refine x_aload_n (pc := 63) C (d_M_open 38 rfl) rfl 1 rfl ?_
      refine x_iload_n (pc := 64) C (d_M_open 39 rfl) rfl 2 rfl ?_
      cases c74 : f_M_isReady x0 x1 st with
      | none => rw [c74] at h; cases h
      | some v75 =>
        rw [c74] at h
        dsimp only at h
        refine x_callV (mc := 0) (ms := 0) (pc := 65) (bL := [xI (x1)]) (K := [xR 32 (some (x0))]) C cs_M_103 (m_M_isReady l c74 : x_M l _ _ _ _ (.inl (some (xI v75))) _ 0 0) (by decide) rfl (Nat.le_of_ble_eq_true rfl) (d_M_open 40 rfl) ?_
        refine x_if_ne (pc := 68) (tgt := 75) C (d_M_open 41 rfl) (by decide) (fun c76 => ?_) (fun c76 => ?_)
        · rw [if_neg c76] at h
          refine x_iconst (pc := 75) (v := 0) C (by decide) (d_M_open 44 rfl) ?_
          exact x_sub [1, 2, 3, 4, 0] rfl (v_M_open_76 C hret hmn hex _ _ _ _ _ _ _ _ h)
        · rw [if_pos c76] at h
          refine x_iconst (pc := 71) (v := 1) C (by decide) (d_M_open 42 rfl) ?_
          refine x_goto (pc := 72) (tgt := 76) C (d_M_open 43 rfl) (by decide) ?_
          exact x_sub [1, 2, 3, 4, 0] rfl (v_M_open_76 C hret hmn hex _ _ _ _ _ _ _ _ h)
    · rw [if_neg c73] at h
      refine x_iconst (pc := 55) (v := 1) C (by decide) (d_M_open 33 rfl) ?_
      refine x_goto (pc := 56) (tgt := 60) C (d_M_open 34 rfl) (by decide) ?_
      refine x_istore (pc := 60) (L2 := [(4, xI (1)), (0, xR 32 (some (x0))), (1, xI (x1)), (2, xI (x2)), (3, xI (x3))]) C (d_M_open 36 rfl) (by decide) rfl ?_
      refine x_aload_n (pc := 62) C (d_M_open 37 rfl) rfl 1 rfl ?_
      refine x_aload_n (pc := 63) C (d_M_open 38 rfl) rfl 1 rfl ?_
      refine x_iload_n (pc := 64) C (d_M_open 39 rfl) rfl 2 rfl ?_
      cases c78 : f_M_isReady x0 x1 st with
      | none => rw [c78] at h; cases h
      | some v79 =>
        rw [c78] at h
        dsimp only at h
        refine x_callV (mc := 0) (ms := 0) (pc := 65) (bL := [xI (x1)]) (K := [xR 32 (some (x0))]) C cs_M_103 (m_M_isReady l c78 : x_M l _ _ _ _ (.inl (some (xI v79))) _ 0 0) (by decide) rfl (Nat.le_of_ble_eq_true rfl) (d_M_open 40 rfl) ?_
        refine x_if_ne (pc := 68) (tgt := 75) C (d_M_open 41 rfl) (by decide) (fun c80 => ?_) (fun c80 => ?_)
        · rw [if_neg c80] at h
          refine x_iconst (pc := 75) (v := 0) C (by decide) (d_M_open 44 rfl) ?_
          exact x_sub [1, 2, 3, 4, 0] rfl (v_M_open_76 C hret hmn hex _ _ _ _ _ _ _ _ h)
        · rw [if_pos c80] at h
          refine x_iconst (pc := 71) (v := 1) C (by decide) (d_M_open 42 rfl) ?_
          refine x_goto (pc := 72) (tgt := 76) C (d_M_open 43 rfl) (by decide) ?_
          exact x_sub [1, 2, 3, 4, 0] rfl (v_M_open_76 C hret hmn hex _ _ _ _ _ _ _ _ h)
def f_M_open_28  (x0 : Nat) (x1 : Int32) (x2 : Int32) (x3 : Int32) (st : XS) : Option (Int32 × XS) :=
  if (x3 &&& (16 : Int32)) = 0 then
    f_M_open_42 x0 x1 x2 x3 st
  else
    if (x3 &&& (8 : Int32)) ≤ 0 then
      match f_M_isReady x0 x1 st with
      | none => none
      | some v85 =>
        if v85 = 0 then
          f_M_open_76 x0 x1 x2 x3 0 1 (some (x0)) st
        else
          f_M_open_76 x0 x1 x2 x3 0 0 (some (x0)) st
    else
      f_M_open_42 x0 x1 x2 x3 st
set_option maxRecDepth 100000 in
set_option maxHeartbeats 4000000 in
theorem v_M_open_28 {p : Program} {l : Launch} {e : Env} {s : State} {m : MethodId} {args : Array Value} {below : List Frame} {meth : Method} {c : Code} {D : va_G} {cA : Nat → ClassId} {g0 : Nat → Nat → Nat} {n0 : Nat → Nat} {r : Int32} {st2 : XS} (C : x_C p e rm_M_open s m args meth c D cA (x_A g0 n0 s.heap.size) M_M_open.2.1 M_M_open.1 M_M_open.2.2.1) (hret : meth.sig.returnType = M_M_open.2.2.2.1) (hmn : meth.name = M_M_open.2.2.2.2.2) (hex : c.exceptionTable.toList.map (fun h => (h.startPc, h.endPc, h.handlerPc, h.catchType)) = M_M_open.2.2.2.2.1)  (x0 : Nat) (x1 : Int32) (x2 : Int32) (x3 : Int32) (st : XS) (h : f_M_open_28 x0 x1 x2 x3 st = some (r, st2)) : x_V p l e rm_M_open s m args below meth c D cA (x_A g0 n0 s.heap.size) M_M_open.2.2.1 g0 n0 (x_MQ D cA g0 n0 below s 0 0 (.inl (some (xI r))) st2) 28 [(0, xR 32 (some (x0))), (1, xI (x1)), (2, xI (x2)), (3, xI (x3))] [] st 0 0 := by
  unfold f_M_open_28 at h
  refine x_iload_n (pc := 28) C (d_M_open 17 rfl) rfl 3 rfl ?_
  refine x_bipush (pc := 29) (v := 16) C (by decide) (d_M_open 18 rfl) ?_
  refine x_iand (pc := 31) C (d_M_open 19 rfl) ?_
  refine x_if_eq (pc := 32) (tgt := 42) C (d_M_open 20 rfl) (by decide) (fun c82 => ?_) (fun c82 => ?_)
  · rw [if_pos c82] at h
    exact x_sub [0, 1, 2, 3] rfl (v_M_open_42 C hret hmn hex _ _ _ _ _ h)
  · rw [if_neg c82] at h
    refine x_iload_n (pc := 35) C (d_M_open 21 rfl) rfl 3 rfl ?_
    refine x_bipush (pc := 36) (v := 8) C (by decide) (d_M_open 22 rfl) ?_
    refine x_iand (pc := 38) C (d_M_open 23 rfl) ?_
    refine x_if_le (pc := 39) (tgt := 59) C (d_M_open 24 rfl) (by decide) (fun c83 => ?_) (fun c83 => ?_)
    · rw [if_pos c83] at h
      refine x_iconst (pc := 59) (v := 0) C (by decide) (d_M_open 35 rfl) ?_
      refine x_istore (pc := 60) (L2 := [(4, xI (0)), (0, xR 32 (some (x0))), (1, xI (x1)), (2, xI (x2)), (3, xI (x3))]) C (d_M_open 36 rfl) (by decide) rfl ?_
      refine x_aload_n (pc := 62) C (d_M_open 37 rfl) rfl 1 rfl ?_
      refine x_aload_n (pc := 63) C (d_M_open 38 rfl) rfl 1 rfl ?_
      refine x_iload_n (pc := 64) C (d_M_open 39 rfl) rfl 2 rfl ?_
      cases c84 : f_M_isReady x0 x1 st with
      | none => rw [c84] at h; cases h
      | some v85 =>
        rw [c84] at h
        dsimp only at h
        refine x_callV (mc := 0) (ms := 0) (pc := 65) (bL := [xI (x1)]) (K := [xR 32 (some (x0))]) C cs_M_103 (m_M_isReady l c84 : x_M l _ _ _ _ (.inl (some (xI v85))) _ 0 0) (by decide) rfl (Nat.le_of_ble_eq_true rfl) (d_M_open 40 rfl) ?_
        refine x_if_ne (pc := 68) (tgt := 75) C (d_M_open 41 rfl) (by decide) (fun c86 => ?_) (fun c86 => ?_)
        · rw [if_neg c86] at h
          refine x_iconst (pc := 75) (v := 0) C (by decide) (d_M_open 44 rfl) ?_
          exact x_sub [1, 2, 3, 4, 0] rfl (v_M_open_76 C hret hmn hex _ _ _ _ _ _ _ _ h)
        · rw [if_pos c86] at h
          refine x_iconst (pc := 71) (v := 1) C (by decide) (d_M_open 42 rfl) ?_
          refine x_goto (pc := 72) (tgt := 76) C (d_M_open 43 rfl) (by decide) ?_
          exact x_sub [1, 2, 3, 4, 0] rfl (v_M_open_76 C hret hmn hex _ _ _ _ _ _ _ _ h)
    · rw [if_neg c83] at h
      exact x_sub [0, 1, 2, 3] rfl (v_M_open_42 C hret hmn hex _ _ _ _ _ h)
def f_M_open (x0 : Nat) (x1 : Int32) (x2 : Int32) (x3 : Int32) (st : XS) : Option (Int32 × XS) :=
  match f_M_in x3 1 63 st with
  | none => none
  | some v89 =>
    if v89 = 0 then
      match f_M_isReady x0 x1 st with
      | none => none
      | some v92 =>
        if v92 = 0 then
          f_M_open_76 x0 x1 x2 x3 0 1 (some (x0)) st
        else
          f_M_open_76 x0 x1 x2 x3 0 0 (some (x0)) st
    else
      if (x3 &&& (3 : Int32)) ≤ 0 then
        match f_M_isReady x0 x1 st with
        | none => none
        | some v97 =>
          if v97 = 0 then
            f_M_open_76 x0 x1 x2 x3 0 1 (some (x0)) st
          else
            f_M_open_76 x0 x1 x2 x3 0 0 (some (x0)) st
      else
        if (x3 &&& (4 : Int32)) = 0 then
          f_M_open_28 x0 x1 x2 x3 st
        else
          if (x3 &&& (2 : Int32)) ≤ 0 then
            match f_M_isReady x0 x1 st with
            | none => none
            | some v103 =>
              if v103 = 0 then
                f_M_open_76 x0 x1 x2 x3 0 1 (some (x0)) st
              else
                f_M_open_76 x0 x1 x2 x3 0 0 (some (x0)) st
          else
            f_M_open_28 x0 x1 x2 x3 st
set_option maxRecDepth 100000 in
set_option maxHeartbeats 4000000 in
theorem m_M_open (l : Launch) {x0 : Nat} {x1 : Int32} {x2 : Int32} {x3 : Int32} {st : XS} {r : Int32} {st2 : XS} (h : f_M_open x0 x1 x2 x3 st = some (r, st2)) : x_M l M_M_open rm_M_open [xR 32 (some (x0)), xI (x1), xI (x2), xI (x3)] st (.inl (some (xI r))) st2 0 0 := by
  refine x_enter (Nat.le_of_ble_eq_true rfl) ?_
  intro p e s m below meth c D cA g args B C
  have hret := B.2.2.2.2.2.2.2.2.1
  have hmn := B.2.2.2.2.2.2.2.1
  have hex := B.2.2.2.2.2.2.2.2.2.1
  unfold f_M_open at h
  refine x_iload_n (pc := 0) C (d_M_open 0 rfl) rfl 3 rfl ?_
  refine x_iconst (pc := 1) (v := 1) C (by decide) (d_M_open 1 rfl) ?_
  refine x_bipush (pc := 2) (v := 63) C (by decide) (d_M_open 2 rfl) ?_
  cases c88 : f_M_in x3 1 63 st with
  | none => rw [c88] at h; cases h
  | some v89 =>
    rw [c88] at h
    dsimp only at h
    refine x_callS (mc := 0) (ms := 0) (pc := 4) (aL := [xI (x3), xI (1), xI (63)]) (K := []) C cs_M_70 (m_M_in l c88 : x_M l _ _ _ _ (.inl (some (xI v89))) _ 0 0) (by decide) rfl (Nat.le_of_ble_eq_true rfl) (d_M_open 3 rfl) ?_
    refine x_if_eq (pc := 7) (tgt := 59) C (d_M_open 4 rfl) (by decide) (fun c90 => ?_) (fun c90 => ?_)
    · rw [if_pos c90] at h
      refine x_iconst (pc := 59) (v := 0) C (by decide) (d_M_open 35 rfl) ?_
      refine x_istore (pc := 60) (L2 := [(4, xI (0)), (0, xR 32 (some (x0))), (1, xI (x1)), (2, xI (x2)), (3, xI (x3))]) C (d_M_open 36 rfl) (by decide) rfl ?_
      refine x_aload_n (pc := 62) C (d_M_open 37 rfl) rfl 1 rfl ?_
      refine x_aload_n (pc := 63) C (d_M_open 38 rfl) rfl 1 rfl ?_
      refine x_iload_n (pc := 64) C (d_M_open 39 rfl) rfl 2 rfl ?_
      cases c91 : f_M_isReady x0 x1 st with
      | none => rw [c91] at h; cases h
      | some v92 =>
        rw [c91] at h
        dsimp only at h
        refine x_callV (mc := 0) (ms := 0) (pc := 65) (bL := [xI (x1)]) (K := [xR 32 (some (x0))]) C cs_M_103 (m_M_isReady l c91 : x_M l _ _ _ _ (.inl (some (xI v92))) _ 0 0) (by decide) rfl (Nat.le_of_ble_eq_true rfl) (d_M_open 40 rfl) ?_
        refine x_if_ne (pc := 68) (tgt := 75) C (d_M_open 41 rfl) (by decide) (fun c93 => ?_) (fun c93 => ?_)
        · rw [if_neg c93] at h
          refine x_iconst (pc := 75) (v := 0) C (by decide) (d_M_open 44 rfl) ?_
          exact x_sub [1, 2, 3, 4, 0] rfl (v_M_open_76 C hret hmn hex _ _ _ _ _ _ _ _ h)
        · rw [if_pos c93] at h
          refine x_iconst (pc := 71) (v := 1) C (by decide) (d_M_open 42 rfl) ?_
          refine x_goto (pc := 72) (tgt := 76) C (d_M_open 43 rfl) (by decide) ?_
          exact x_sub [1, 2, 3, 4, 0] rfl (v_M_open_76 C hret hmn hex _ _ _ _ _ _ _ _ h)
    · rw [if_neg c90] at h
      refine x_iload_n (pc := 10) C (d_M_open 5 rfl) rfl 3 rfl ?_
      refine x_iconst (pc := 11) (v := 3) C (by decide) (d_M_open 6 rfl) ?_
      refine x_iand (pc := 12) C (d_M_open 7 rfl) ?_
      refine x_if_le (pc := 13) (tgt := 59) C (d_M_open 8 rfl) (by decide) (fun c95 => ?_) (fun c95 => ?_)
      · rw [if_pos c95] at h
        refine x_iconst (pc := 59) (v := 0) C (by decide) (d_M_open 35 rfl) ?_
        refine x_istore (pc := 60) (L2 := [(4, xI (0)), (0, xR 32 (some (x0))), (1, xI (x1)), (2, xI (x2)), (3, xI (x3))]) C (d_M_open 36 rfl) (by decide) rfl ?_
        refine x_aload_n (pc := 62) C (d_M_open 37 rfl) rfl 1 rfl ?_
        refine x_aload_n (pc := 63) C (d_M_open 38 rfl) rfl 1 rfl ?_
        refine x_iload_n (pc := 64) C (d_M_open 39 rfl) rfl 2 rfl ?_
        cases c96 : f_M_isReady x0 x1 st with
        | none => rw [c96] at h; cases h
        | some v97 =>
          rw [c96] at h
          dsimp only at h
          refine x_callV (mc := 0) (ms := 0) (pc := 65) (bL := [xI (x1)]) (K := [xR 32 (some (x0))]) C cs_M_103 (m_M_isReady l c96 : x_M l _ _ _ _ (.inl (some (xI v97))) _ 0 0) (by decide) rfl (Nat.le_of_ble_eq_true rfl) (d_M_open 40 rfl) ?_
          refine x_if_ne (pc := 68) (tgt := 75) C (d_M_open 41 rfl) (by decide) (fun c98 => ?_) (fun c98 => ?_)
          · rw [if_neg c98] at h
            refine x_iconst (pc := 75) (v := 0) C (by decide) (d_M_open 44 rfl) ?_
            exact x_sub [1, 2, 3, 4, 0] rfl (v_M_open_76 C hret hmn hex _ _ _ _ _ _ _ _ h)
          · rw [if_pos c98] at h
            refine x_iconst (pc := 71) (v := 1) C (by decide) (d_M_open 42 rfl) ?_
            refine x_goto (pc := 72) (tgt := 76) C (d_M_open 43 rfl) (by decide) ?_
            exact x_sub [1, 2, 3, 4, 0] rfl (v_M_open_76 C hret hmn hex _ _ _ _ _ _ _ _ h)
      · rw [if_neg c95] at h
        refine x_iload_n (pc := 16) C (d_M_open 9 rfl) rfl 3 rfl ?_
        refine x_iconst (pc := 17) (v := 4) C (by decide) (d_M_open 10 rfl) ?_
        refine x_iand (pc := 18) C (d_M_open 11 rfl) ?_
        refine x_if_eq (pc := 19) (tgt := 28) C (d_M_open 12 rfl) (by decide) (fun c100 => ?_) (fun c100 => ?_)
        · rw [if_pos c100] at h
          exact x_sub [0, 1, 2, 3] rfl (v_M_open_28 C hret hmn hex _ _ _ _ _ h)
        · rw [if_neg c100] at h
          refine x_iload_n (pc := 22) C (d_M_open 13 rfl) rfl 3 rfl ?_
          refine x_iconst (pc := 23) (v := 2) C (by decide) (d_M_open 14 rfl) ?_
          refine x_iand (pc := 24) C (d_M_open 15 rfl) ?_
          refine x_if_le (pc := 25) (tgt := 59) C (d_M_open 16 rfl) (by decide) (fun c101 => ?_) (fun c101 => ?_)
          · rw [if_pos c101] at h
            refine x_iconst (pc := 59) (v := 0) C (by decide) (d_M_open 35 rfl) ?_
            refine x_istore (pc := 60) (L2 := [(4, xI (0)), (0, xR 32 (some (x0))), (1, xI (x1)), (2, xI (x2)), (3, xI (x3))]) C (d_M_open 36 rfl) (by decide) rfl ?_
            refine x_aload_n (pc := 62) C (d_M_open 37 rfl) rfl 1 rfl ?_
            refine x_aload_n (pc := 63) C (d_M_open 38 rfl) rfl 1 rfl ?_
            refine x_iload_n (pc := 64) C (d_M_open 39 rfl) rfl 2 rfl ?_
            cases c102 : f_M_isReady x0 x1 st with
            | none => rw [c102] at h; cases h
            | some v103 =>
              rw [c102] at h
              dsimp only at h
              refine x_callV (mc := 0) (ms := 0) (pc := 65) (bL := [xI (x1)]) (K := [xR 32 (some (x0))]) C cs_M_103 (m_M_isReady l c102 : x_M l _ _ _ _ (.inl (some (xI v103))) _ 0 0) (by decide) rfl (Nat.le_of_ble_eq_true rfl) (d_M_open 40 rfl) ?_
              refine x_if_ne (pc := 68) (tgt := 75) C (d_M_open 41 rfl) (by decide) (fun c104 => ?_) (fun c104 => ?_)
              · rw [if_neg c104] at h
                refine x_iconst (pc := 75) (v := 0) C (by decide) (d_M_open 44 rfl) ?_
                exact x_sub [1, 2, 3, 4, 0] rfl (v_M_open_76 C hret hmn hex _ _ _ _ _ _ _ _ h)
              · rw [if_pos c104] at h
                refine x_iconst (pc := 71) (v := 1) C (by decide) (d_M_open 42 rfl) ?_
                refine x_goto (pc := 72) (tgt := 76) C (d_M_open 43 rfl) (by decide) ?_
                exact x_sub [1, 2, 3, 4, 0] rfl (v_M_open_76 C hret hmn hex _ _ _ _ _ _ _ _ h)
          · rw [if_neg c101] at h
            exact x_sub [0, 1, 2, 3] rfl (v_M_open_28 C hret hmn hex _ _ _ _ _ h)
def f_M_unlink_29  (x0 : Nat) (x2 : Int32) (s0 : Int32) (s1 : Int32) (s2 : Option Nat) (st : XS) : Option (Int32 × XS) :=
  match s2 with
  | none => none
  | some i1 =>
    match f_M_fails i1 s1 s0 st with
    | none => none
    | some (v4, st5) =>
      if v4 = 0 then
        match f_M_named x0 x2 st5 with
        | none => none
        | some v8 =>
          if 0 ≤ v8 then
            match st5.2.2.1 32 x0 14 with
            | none => none
            | some i10 =>
              if x_in v8 6 then
                match f_M_sweep x0 (xsI st5 46 i10 v8.toNatClampNeg 0) with
                | none => none
                | some (_, st15) =>
                  some (0, st15)
              else none
          else
            some ((-2), st5)
      else
        some (0, st5)
set_option maxRecDepth 100000 in
set_option maxHeartbeats 4000000 in
theorem v_M_unlink_29 {p : Program} {l : Launch} {e : Env} {s : State} {m : MethodId} {args : Array Value} {below : List Frame} {meth : Method} {c : Code} {D : va_G} {cA : Nat → ClassId} {g0 : Nat → Nat → Nat} {n0 : Nat → Nat} {r : Int32} {st2 : XS} (C : x_C p e rm_M_unlink s m args meth c D cA (x_A g0 n0 s.heap.size) M_M_unlink.2.1 M_M_unlink.1 M_M_unlink.2.2.1) (hret : meth.sig.returnType = M_M_unlink.2.2.2.1) (hmn : meth.name = M_M_unlink.2.2.2.2.2) (hex : c.exceptionTable.toList.map (fun h => (h.startPc, h.endPc, h.handlerPc, h.catchType)) = M_M_unlink.2.2.2.2.1)  (x0 : Nat) (x2 : Int32) (s0 : Int32) (s1 : Int32) (s2 : Option Nat) (st : XS) (h : f_M_unlink_29 x0 x2 s0 s1 s2 st = some (r, st2)) : x_V p l e rm_M_unlink s m args below meth c D cA (x_A g0 n0 s.heap.size) M_M_unlink.2.2.1 g0 n0 (x_MQ D cA g0 n0 below s 0 0 (.inl (some (xI r))) st2) 29 [(0, xR 32 (some (x0))), (2, xI (x2))] [xI (s0), xI (s1), xR 32 (s2)] st 0 0 := by
  unfold f_M_unlink_29 at h
  cases c2 : s2 with
  | none => rw [c2] at h; cases h
  | some i1 =>
    rw [c2] at h
    dsimp only at h
    cases c3 : f_M_fails i1 s1 s0 st with
    | none => rw [c3] at h; cases h
    | some w18 =>
      obtain ⟨v4, st5⟩ := w18
      rw [c3] at h
      dsimp only at h
      refine x_callV (mc := 0) (ms := 0) (pc := 29) (bL := [xI (s1), xI (s0)]) (K := []) C cs_M_107 (m_M_fails l c3 : x_M l _ _ _ _ (.inl (some (xI v4))) _ 0 0) (by decide) rfl (Nat.le_of_ble_eq_true rfl) (d_M_unlink 16 rfl) ?_
      refine x_if_eq (pc := 32) (tgt := 37) C (d_M_unlink 17 rfl) (by decide) (fun c6 => ?_) (fun c6 => ?_)
      · rw [if_pos c6] at h
        refine x_aload_n (pc := 37) C (d_M_unlink 20 rfl) rfl 0 rfl ?_
        refine x_iload_n (pc := 38) C (d_M_unlink 21 rfl) rfl 1 rfl ?_
        cases c7 : f_M_named x0 x2 st5 with
        | none => rw [c7] at h; cases h
        | some v8 =>
          rw [c7] at h
          dsimp only at h
          refine x_callV (mc := 0) (ms := 0) (pc := 39) (bL := [xI (x2)]) (K := []) C cs_M_127 (m_M_named l c7 : x_M l _ _ _ _ (.inl (some (xI v8))) _ 0 0) (by decide) rfl (Nat.le_of_ble_eq_true rfl) (d_M_unlink 22 rfl) ?_
          refine x_istore_n (pc := 42) (L2 := [(3, xI (v8)), (0, xR 32 (some (x0))), (2, xI (x2))]) C (d_M_unlink 23 rfl) rfl (by decide) rfl ?_
          refine x_iload_n (pc := 43) C (d_M_unlink 24 rfl) rfl 0 rfl ?_
          refine x_if_ge (pc := 44) (tgt := 50) C (d_M_unlink 25 rfl) (by decide) (fun c9 => ?_) (fun c9 => ?_)
          · rw [if_pos c9] at h
            refine x_aload_n (pc := 50) C (d_M_unlink 28 rfl) rfl 1 rfl ?_
            refine x_getR (pc := 51) (t := 46) C fl_M_51 rfl rfl (d_M_unlink 29 rfl) ?_
            refine x_iload_n (pc := 54) C (d_M_unlink 30 rfl) rfl 0 rfl ?_
            refine x_iconst (pc := 55) (v := 0) C (by decide) (d_M_unlink 31 rfl) ?_
            cases c11 : st5.2.2.1 32 x0 14 with
            | none => rw [c11] at h; cases h
            | some i10 =>
              rw [c11] at h
              dsimp only at h
              by_cases b12 : x_in v8 6
              · rw [if_pos b12] at h
                refine x_iast (pc := 56) C ar_46 b12 (d_M_unlink 32 rfl) ?_
                refine x_aload_n (pc := 57) C (d_M_unlink 33 rfl) rfl 1 rfl ?_
                cases c13 : f_M_sweep x0 (xsI st5 46 i10 v8.toNatClampNeg 0) with
                | none => rw [c13] at h; cases h
                | some w16 =>
                  obtain ⟨v14, st15⟩ := w16
                  rw [c13] at h
                  dsimp only at h
                  refine x_callV (mc := 0) (ms := 0) (pc := 58) (bL := []) (K := []) C cs_M_114 (m_M_sweep l c13 : x_M l _ _ _ _ (.inl none) _ 0 0) (by decide) rfl (Nat.le_of_ble_eq_true rfl) (d_M_unlink 34 rfl) ?_
                  refine x_iconst (pc := 61) (v := 0) C (by decide) (d_M_unlink 35 rfl) ?_
                  cases h
                  exact x_iret (pc := 62) C hret rfl (Nat.zero_le _) (Nat.zero_le _) (d_M_unlink 36 rfl)
              · rw [if_neg b12] at h; cases h
          · rw [if_neg c9] at h
            refine x_bipush (pc := 47) (v := (-2)) C (by decide) (d_M_unlink 26 rfl) ?_
            cases h
            exact x_iret (pc := 49) C hret rfl (Nat.zero_le _) (Nat.zero_le _) (d_M_unlink 27 rfl)
      · rw [if_neg c6] at h
        refine x_iconst (pc := 35) (v := 0) C (by decide) (d_M_unlink 18 rfl) ?_
        cases h
        exact x_iret (pc := 36) C hret rfl (Nat.zero_le _) (Nat.zero_le _) (d_M_unlink 19 rfl)
def f_M_unlink (x0 : Nat) (x1 : Int32) (x2 : Int32) (st : XS) : Option (Int32 × XS) :=
  match f_M_isReady x0 x1 st with
  | none => none
  | some v20 =>
    if v20 = 0 then
      match f_M_in x2 1 9 st with
      | none => none
      | some v27 =>
        if v27 = 0 then
          f_M_unlink_29 x0 x2 1 1 (some (x0)) st
        else
          f_M_unlink_29 x0 x2 0 1 (some (x0)) st
    else
      match f_M_in x2 1 9 st with
      | none => none
      | some v23 =>
        if v23 = 0 then
          f_M_unlink_29 x0 x2 1 0 (some (x0)) st
        else
          f_M_unlink_29 x0 x2 0 0 (some (x0)) st
set_option maxRecDepth 100000 in
set_option maxHeartbeats 4000000 in
theorem m_M_unlink (l : Launch) {x0 : Nat} {x1 : Int32} {x2 : Int32} {st : XS} {r : Int32} {st2 : XS} (h : f_M_unlink x0 x1 x2 st = some (r, st2)) : x_M l M_M_unlink rm_M_unlink [xR 32 (some (x0)), xI (x1), xI (x2)] st (.inl (some (xI r))) st2 0 0 := by
  refine x_enter (Nat.le_of_ble_eq_true rfl) ?_
  intro p e s m below meth c D cA g args B C
  have hret := B.2.2.2.2.2.2.2.2.1
  have hmn := B.2.2.2.2.2.2.2.1
  have hex := B.2.2.2.2.2.2.2.2.2.1
  unfold f_M_unlink at h
  refine x_aload_n (pc := 0) C (d_M_unlink 0 rfl) rfl 0 rfl ?_
  refine x_aload_n (pc := 1) C (d_M_unlink 1 rfl) rfl 0 rfl ?_
  refine x_iload_n (pc := 2) C (d_M_unlink 2 rfl) rfl 1 rfl ?_
  cases c19 : f_M_isReady x0 x1 st with
  | none => rw [c19] at h; cases h
  | some v20 =>
    rw [c19] at h
    dsimp only at h
    refine x_callV (mc := 0) (ms := 0) (pc := 3) (bL := [xI (x1)]) (K := [xR 32 (some (x0))]) C cs_M_103 (m_M_isReady l c19 : x_M l _ _ _ _ (.inl (some (xI v20))) _ 0 0) (by decide) rfl (Nat.le_of_ble_eq_true rfl) (d_M_unlink 3 rfl) ?_
    refine x_if_ne (pc := 6) (tgt := 13) C (d_M_unlink 4 rfl) (by decide) (fun c21 => ?_) (fun c21 => ?_)
    · rw [if_neg c21] at h
      refine x_iconst (pc := 13) (v := 0) C (by decide) (d_M_unlink 7 rfl) ?_
      refine x_iload_n (pc := 14) C (d_M_unlink 8 rfl) rfl 2 rfl ?_
      refine x_iconst (pc := 15) (v := 1) C (by decide) (d_M_unlink 9 rfl) ?_
      refine x_bipush (pc := 16) (v := 9) C (by decide) (d_M_unlink 10 rfl) ?_
      cases c22 : f_M_in x2 1 9 st with
      | none => rw [c22] at h; cases h
      | some v23 =>
        rw [c22] at h
        dsimp only at h
        refine x_callS (mc := 0) (ms := 0) (pc := 18) (aL := [xI (x2), xI (1), xI (9)]) (K := [xI (0), xR 32 (some (x0))]) C cs_M_70 (m_M_in l c22 : x_M l _ _ _ _ (.inl (some (xI v23))) _ 0 0) (by decide) rfl (Nat.le_of_ble_eq_true rfl) (d_M_unlink 11 rfl) ?_
        refine x_if_ne (pc := 21) (tgt := 28) C (d_M_unlink 12 rfl) (by decide) (fun c24 => ?_) (fun c24 => ?_)
        · rw [if_neg c24] at h
          refine x_iconst (pc := 28) (v := 0) C (by decide) (d_M_unlink 15 rfl) ?_
          exact x_sub [0, 2] rfl (v_M_unlink_29 C hret hmn hex _ _ _ _ _ _ h)
        · rw [if_pos c24] at h
          refine x_iconst (pc := 24) (v := 1) C (by decide) (d_M_unlink 13 rfl) ?_
          refine x_goto (pc := 25) (tgt := 29) C (d_M_unlink 14 rfl) (by decide) ?_
          exact x_sub [0, 2] rfl (v_M_unlink_29 C hret hmn hex _ _ _ _ _ _ h)
    · rw [if_pos c21] at h
      refine x_iconst (pc := 9) (v := 1) C (by decide) (d_M_unlink 5 rfl) ?_
      refine x_goto (pc := 10) (tgt := 14) C (d_M_unlink 6 rfl) (by decide) ?_
      refine x_iload_n (pc := 14) C (d_M_unlink 8 rfl) rfl 2 rfl ?_
      refine x_iconst (pc := 15) (v := 1) C (by decide) (d_M_unlink 9 rfl) ?_
      refine x_bipush (pc := 16) (v := 9) C (by decide) (d_M_unlink 10 rfl) ?_
      cases c26 : f_M_in x2 1 9 st with
      | none => rw [c26] at h; cases h
      | some v27 =>
        rw [c26] at h
        dsimp only at h
        refine x_callS (mc := 0) (ms := 0) (pc := 18) (aL := [xI (x2), xI (1), xI (9)]) (K := [xI (1), xR 32 (some (x0))]) C cs_M_70 (m_M_in l c26 : x_M l _ _ _ _ (.inl (some (xI v27))) _ 0 0) (by decide) rfl (Nat.le_of_ble_eq_true rfl) (d_M_unlink 11 rfl) ?_
        refine x_if_ne (pc := 21) (tgt := 28) C (d_M_unlink 12 rfl) (by decide) (fun c28 => ?_) (fun c28 => ?_)
        · rw [if_neg c28] at h
          refine x_iconst (pc := 28) (v := 0) C (by decide) (d_M_unlink 15 rfl) ?_
          exact x_sub [0, 2] rfl (v_M_unlink_29 C hret hmn hex _ _ _ _ _ _ h)
        · rw [if_pos c28] at h
          refine x_iconst (pc := 24) (v := 1) C (by decide) (d_M_unlink 13 rfl) ?_
          refine x_goto (pc := 25) (tgt := 29) C (d_M_unlink 14 rfl) (by decide) ?_
          exact x_sub [0, 2] rfl (v_M_unlink_29 C hret hmn hex _ _ _ _ _ _ h)
def f_M_rename_39  (x0 : Nat) (x2 : Int32) (x3 : Int32) (s0 : Int32) (s1 : Int32) (s2 : Option Nat) (st : XS) : Option (Int32 × XS) :=
  match s2 with
  | none => none
  | some i1 =>
    match f_M_fails i1 s1 s0 st with
    | none => none
    | some (v4, st5) =>
      if v4 = 0 then
        match f_M_named x0 x2 st5 with
        | none => none
        | some v8 =>
          if 0 ≤ v8 then
            match f_M_named x0 x3 st5 with
            | none => none
            | some v11 =>
              if v11 < 0 then
                match st5.2.2.1 32 x0 14 with
                | none => none
                | some i13 =>
                  if x_in v8 6 then
                    match f_M_sweep x0 (xsI st5 46 i13 v8.toNatClampNeg x3) with
                    | none => none
                    | some (_, st18) =>
                      some (0, st18)
                  else none
              else
                if v11 = v8 then
                  match st5.2.2.1 32 x0 14 with
                  | none => none
                  | some i21 =>
                    if x_in v8 6 then
                      match f_M_sweep x0 (xsI st5 46 i21 v8.toNatClampNeg x3) with
                      | none => none
                      | some (_, st26) =>
                        some (0, st26)
                    else none
                else
                  match st5.2.2.1 32 x0 14 with
                  | none => none
                  | some i28 =>
                    if x_in v11 6 then
                      match (xsI st5 46 i28 v11.toNatClampNeg 0).2.2.1 32 x0 14 with
                      | none => none
                      | some i31 =>
                        if x_in v8 6 then
                          match f_M_sweep x0 (xsI (xsI st5 46 i28 v11.toNatClampNeg 0) 46 i31 v8.toNatClampNeg x3) with
                          | none => none
                          | some (_, st36) =>
                            some (0, st36)
                        else none
                    else none
          else
            some ((-2), st5)
      else
        some (0, st5)
set_option maxRecDepth 100000 in
set_option maxHeartbeats 4000000 in
theorem v_M_rename_39 {p : Program} {l : Launch} {e : Env} {s : State} {m : MethodId} {args : Array Value} {below : List Frame} {meth : Method} {c : Code} {D : va_G} {cA : Nat → ClassId} {g0 : Nat → Nat → Nat} {n0 : Nat → Nat} {r : Int32} {st2 : XS} (C : x_C p e rm_M_rename s m args meth c D cA (x_A g0 n0 s.heap.size) M_M_rename.2.1 M_M_rename.1 M_M_rename.2.2.1) (hret : meth.sig.returnType = M_M_rename.2.2.2.1) (hmn : meth.name = M_M_rename.2.2.2.2.2) (hex : c.exceptionTable.toList.map (fun h => (h.startPc, h.endPc, h.handlerPc, h.catchType)) = M_M_rename.2.2.2.2.1)  (x0 : Nat) (x2 : Int32) (x3 : Int32) (s0 : Int32) (s1 : Int32) (s2 : Option Nat) (st : XS) (h : f_M_rename_39 x0 x2 x3 s0 s1 s2 st = some (r, st2)) : x_V p l e rm_M_rename s m args below meth c D cA (x_A g0 n0 s.heap.size) M_M_rename.2.2.1 g0 n0 (x_MQ D cA g0 n0 below s 0 0 (.inl (some (xI r))) st2) 39 [(0, xR 32 (some (x0))), (2, xI (x2)), (3, xI (x3))] [xI (s0), xI (s1), xR 32 (s2)] st 0 0 := by
  unfold f_M_rename_39 at h
  cases c2 : s2 with
  | none => rw [c2] at h; cases h
  | some i1 =>
    rw [c2] at h
    dsimp only at h
    cases c3 : f_M_fails i1 s1 s0 st with
    | none => rw [c3] at h; cases h
    | some w40 =>
      obtain ⟨v4, st5⟩ := w40
      rw [c3] at h
      dsimp only at h
      refine x_callV (mc := 0) (ms := 0) (pc := 39) (bL := [xI (s1), xI (s0)]) (K := []) C cs_M_107 (m_M_fails l c3 : x_M l _ _ _ _ (.inl (some (xI v4))) _ 0 0) (by decide) rfl (Nat.le_of_ble_eq_true rfl) (d_M_rename 21 rfl) ?_
      refine x_if_eq (pc := 42) (tgt := 47) C (d_M_rename 22 rfl) (by decide) (fun c6 => ?_) (fun c6 => ?_)
      · rw [if_pos c6] at h
        refine x_aload_n (pc := 47) C (d_M_rename 25 rfl) rfl 0 rfl ?_
        refine x_iload_n (pc := 48) C (d_M_rename 26 rfl) rfl 1 rfl ?_
        cases c7 : f_M_named x0 x2 st5 with
        | none => rw [c7] at h; cases h
        | some v8 =>
          rw [c7] at h
          dsimp only at h
          refine x_callV (mc := 0) (ms := 0) (pc := 49) (bL := [xI (x2)]) (K := []) C cs_M_127 (m_M_named l c7 : x_M l _ _ _ _ (.inl (some (xI v8))) _ 0 0) (by decide) rfl (Nat.le_of_ble_eq_true rfl) (d_M_rename 27 rfl) ?_
          refine x_istore (pc := 52) (L2 := [(4, xI (v8)), (0, xR 32 (some (x0))), (2, xI (x2)), (3, xI (x3))]) C (d_M_rename 28 rfl) (by decide) rfl ?_
          refine x_iload (pc := 54) C (d_M_rename 29 rfl) 0 rfl ?_
          refine x_if_ge (pc := 56) (tgt := 62) C (d_M_rename 30 rfl) (by decide) (fun c9 => ?_) (fun c9 => ?_)
          · rw [if_pos c9] at h
            refine x_aload_n (pc := 62) C (d_M_rename 33 rfl) rfl 1 rfl ?_
            refine x_iload_n (pc := 63) C (d_M_rename 34 rfl) rfl 3 rfl ?_
            cases c10 : f_M_named x0 x3 st5 with
            | none => rw [c10] at h; cases h
            | some v11 =>
              rw [c10] at h
              dsimp only at h
              refine x_callV (mc := 0) (ms := 0) (pc := 64) (bL := [xI (x3)]) (K := []) C cs_M_127 (m_M_named l c10 : x_M l _ _ _ _ (.inl (some (xI v11))) _ 0 0) (by decide) rfl (Nat.le_of_ble_eq_true rfl) (d_M_rename 35 rfl) ?_
              refine x_istore (pc := 67) (L2 := [(5, xI (v11)), (4, xI (v8)), (0, xR 32 (some (x0))), (2, xI (x2)), (3, xI (x3))]) C (d_M_rename 36 rfl) (by decide) rfl ?_
              refine x_iload (pc := 69) C (d_M_rename 37 rfl) 0 rfl ?_
              refine x_if_lt (pc := 71) (tgt := 89) C (d_M_rename 38 rfl) (by decide) (fun c12 => ?_) (fun c12 => ?_)
              · rw [if_pos c12] at h
                refine x_aload_n (pc := 89) C (d_M_rename 47 rfl) rfl 2 rfl ?_
                refine x_getR (pc := 90) (t := 46) C fl_M_51 rfl rfl (d_M_rename 48 rfl) ?_
                refine x_iload (pc := 93) C (d_M_rename 49 rfl) 1 rfl ?_
                refine x_iload_n (pc := 95) C (d_M_rename 50 rfl) rfl 4 rfl ?_
                cases c14 : st5.2.2.1 32 x0 14 with
                | none => rw [c14] at h; cases h
                | some i13 =>
                  rw [c14] at h
                  dsimp only at h
                  by_cases b15 : x_in v8 6
                  · rw [if_pos b15] at h
                    refine x_iast (pc := 96) C ar_46 b15 (d_M_rename 51 rfl) ?_
                    refine x_aload_n (pc := 97) C (d_M_rename 52 rfl) rfl 2 rfl ?_
                    cases c16 : f_M_sweep x0 (xsI st5 46 i13 v8.toNatClampNeg x3) with
                    | none => rw [c16] at h; cases h
                    | some w19 =>
                      obtain ⟨v17, st18⟩ := w19
                      rw [c16] at h
                      dsimp only at h
                      refine x_callV (mc := 0) (ms := 0) (pc := 98) (bL := []) (K := []) C cs_M_114 (m_M_sweep l c16 : x_M l _ _ _ _ (.inl none) _ 0 0) (by decide) rfl (Nat.le_of_ble_eq_true rfl) (d_M_rename 53 rfl) ?_
                      refine x_iconst (pc := 101) (v := 0) C (by decide) (d_M_rename 54 rfl) ?_
                      cases h
                      exact x_iret (pc := 102) C hret rfl (Nat.zero_le _) (Nat.zero_le _) (d_M_rename 55 rfl)
                  · rw [if_neg b15] at h; cases h
              · rw [if_neg c12] at h
                refine x_iload (pc := 74) C (d_M_rename 39 rfl) 0 rfl ?_
                refine x_iload (pc := 76) C (d_M_rename 40 rfl) 1 rfl ?_
                refine x_icmp_eq (pc := 78) (tgt := 89) C (d_M_rename 41 rfl) (by decide) (fun c20 => ?_) (fun c20 => ?_)
                · rw [if_pos c20] at h
                  refine x_aload_n (pc := 89) C (d_M_rename 47 rfl) rfl 2 rfl ?_
                  refine x_getR (pc := 90) (t := 46) C fl_M_51 rfl rfl (d_M_rename 48 rfl) ?_
                  refine x_iload (pc := 93) C (d_M_rename 49 rfl) 1 rfl ?_
                  refine x_iload_n (pc := 95) C (d_M_rename 50 rfl) rfl 4 rfl ?_
                  cases c22 : st5.2.2.1 32 x0 14 with
                  | none => rw [c22] at h; cases h
                  | some i21 =>
                    rw [c22] at h
                    dsimp only at h
                    by_cases b23 : x_in v8 6
                    · rw [if_pos b23] at h
                      refine x_iast (pc := 96) C ar_46 b23 (d_M_rename 51 rfl) ?_
                      refine x_aload_n (pc := 97) C (d_M_rename 52 rfl) rfl 2 rfl ?_
                      cases c24 : f_M_sweep x0 (xsI st5 46 i21 v8.toNatClampNeg x3) with
                      | none => rw [c24] at h; cases h
                      | some w27 =>
                        obtain ⟨v25, st26⟩ := w27
                        rw [c24] at h
                        dsimp only at h
                        refine x_callV (mc := 0) (ms := 0) (pc := 98) (bL := []) (K := []) C cs_M_114 (m_M_sweep l c24 : x_M l _ _ _ _ (.inl none) _ 0 0) (by decide) rfl (Nat.le_of_ble_eq_true rfl) (d_M_rename 53 rfl) ?_
                        refine x_iconst (pc := 101) (v := 0) C (by decide) (d_M_rename 54 rfl) ?_
                        cases h
                        exact x_iret (pc := 102) C hret rfl (Nat.zero_le _) (Nat.zero_le _) (d_M_rename 55 rfl)
                    · rw [if_neg b23] at h; cases h
                · rw [if_neg c20] at h
                  refine x_aload_n (pc := 81) C (d_M_rename 42 rfl) rfl 2 rfl ?_
                  refine x_getR (pc := 82) (t := 46) C fl_M_51 rfl rfl (d_M_rename 43 rfl) ?_
                  refine x_iload (pc := 85) C (d_M_rename 44 rfl) 0 rfl ?_
                  refine x_iconst (pc := 87) (v := 0) C (by decide) (d_M_rename 45 rfl) ?_
                  cases c29 : st5.2.2.1 32 x0 14 with
                  | none => rw [c29] at h; cases h
                  | some i28 =>
                    rw [c29] at h
                    dsimp only at h
                    by_cases b30 : x_in v11 6
                    · rw [if_pos b30] at h
                      refine x_iast (pc := 88) C ar_46 b30 (d_M_rename 46 rfl) ?_
                      refine x_aload_n (pc := 89) C (d_M_rename 47 rfl) rfl 2 rfl ?_
                      refine x_getR (pc := 90) (t := 46) C fl_M_51 rfl rfl (d_M_rename 48 rfl) ?_
                      refine x_iload (pc := 93) C (d_M_rename 49 rfl) 1 rfl ?_
                      refine x_iload_n (pc := 95) C (d_M_rename 50 rfl) rfl 4 rfl ?_
                      cases c32 : (xsI st5 46 i28 v11.toNatClampNeg 0).2.2.1 32 x0 14 with
                      | none => rw [c32] at h; cases h
                      | some i31 =>
                        rw [c32] at h
                        dsimp only at h
                        by_cases b33 : x_in v8 6
                        · rw [if_pos b33] at h
                          refine x_iast (pc := 96) C ar_46 b33 (d_M_rename 51 rfl) ?_
                          refine x_aload_n (pc := 97) C (d_M_rename 52 rfl) rfl 2 rfl ?_
                          cases c34 : f_M_sweep x0 (xsI (xsI st5 46 i28 v11.toNatClampNeg 0) 46 i31 v8.toNatClampNeg x3) with
                          | none => rw [c34] at h; cases h
                          | some w37 =>
                            obtain ⟨v35, st36⟩ := w37
                            rw [c34] at h
                            dsimp only at h
                            refine x_callV (mc := 0) (ms := 0) (pc := 98) (bL := []) (K := []) C cs_M_114 (m_M_sweep l c34 : x_M l _ _ _ _ (.inl none) _ 0 0) (by decide) rfl (Nat.le_of_ble_eq_true rfl) (d_M_rename 53 rfl) ?_
                            refine x_iconst (pc := 101) (v := 0) C (by decide) (d_M_rename 54 rfl) ?_
                            cases h
                            exact x_iret (pc := 102) C hret rfl (Nat.zero_le _) (Nat.zero_le _) (d_M_rename 55 rfl)
                        · rw [if_neg b33] at h; cases h
                    · rw [if_neg b30] at h; cases h
          · rw [if_neg c9] at h
            refine x_bipush (pc := 59) (v := (-2)) C (by decide) (d_M_rename 31 rfl) ?_
            cases h
            exact x_iret (pc := 61) C hret rfl (Nat.zero_le _) (Nat.zero_le _) (d_M_rename 32 rfl)
      · rw [if_neg c6] at h
        refine x_iconst (pc := 45) (v := 0) C (by decide) (d_M_rename 23 rfl) ?_
        cases h
        exact x_iret (pc := 46) C hret rfl (Nat.zero_le _) (Nat.zero_le _) (d_M_rename 24 rfl)
def f_M_rename_14  (x0 : Nat) (x2 : Int32) (x3 : Int32) (s0 : Int32) (s1 : Option Nat) (st : XS) : Option (Int32 × XS) :=
  match f_M_in x2 1 9 st with
  | none => none
  | some v42 =>
    if v42 = 0 then
      f_M_rename_39 x0 x2 x3 1 s0 (s1) st
    else
      match f_M_in x3 1 9 st with
      | none => none
      | some v45 =>
        if v45 = 0 then
          f_M_rename_39 x0 x2 x3 1 s0 (s1) st
        else
          f_M_rename_39 x0 x2 x3 0 s0 (s1) st
set_option maxRecDepth 100000 in
set_option maxHeartbeats 4000000 in
theorem v_M_rename_14 {p : Program} {l : Launch} {e : Env} {s : State} {m : MethodId} {args : Array Value} {below : List Frame} {meth : Method} {c : Code} {D : va_G} {cA : Nat → ClassId} {g0 : Nat → Nat → Nat} {n0 : Nat → Nat} {r : Int32} {st2 : XS} (C : x_C p e rm_M_rename s m args meth c D cA (x_A g0 n0 s.heap.size) M_M_rename.2.1 M_M_rename.1 M_M_rename.2.2.1) (hret : meth.sig.returnType = M_M_rename.2.2.2.1) (hmn : meth.name = M_M_rename.2.2.2.2.2) (hex : c.exceptionTable.toList.map (fun h => (h.startPc, h.endPc, h.handlerPc, h.catchType)) = M_M_rename.2.2.2.2.1)  (x0 : Nat) (x2 : Int32) (x3 : Int32) (s0 : Int32) (s1 : Option Nat) (st : XS) (h : f_M_rename_14 x0 x2 x3 s0 s1 st = some (r, st2)) : x_V p l e rm_M_rename s m args below meth c D cA (x_A g0 n0 s.heap.size) M_M_rename.2.2.1 g0 n0 (x_MQ D cA g0 n0 below s 0 0 (.inl (some (xI r))) st2) 14 [(0, xR 32 (some (x0))), (2, xI (x2)), (3, xI (x3))] [xI (s0), xR 32 (s1)] st 0 0 := by
  unfold f_M_rename_14 at h
  refine x_iload_n (pc := 14) C (d_M_rename 8 rfl) rfl 1 rfl ?_
  refine x_iconst (pc := 15) (v := 1) C (by decide) (d_M_rename 9 rfl) ?_
  refine x_bipush (pc := 16) (v := 9) C (by decide) (d_M_rename 10 rfl) ?_
  cases c41 : f_M_in x2 1 9 st with
  | none => rw [c41] at h; cases h
  | some v42 =>
    rw [c41] at h
    dsimp only at h
    refine x_callS (mc := 0) (ms := 0) (pc := 18) (aL := [xI (x2), xI (1), xI (9)]) (K := [xI (s0), xR 32 (s1)]) C cs_M_70 (m_M_in l c41 : x_M l _ _ _ _ (.inl (some (xI v42))) _ 0 0) (by decide) rfl (Nat.le_of_ble_eq_true rfl) (d_M_rename 11 rfl) ?_
    refine x_if_eq (pc := 21) (tgt := 34) C (d_M_rename 12 rfl) (by decide) (fun c43 => ?_) (fun c43 => ?_)
    · rw [if_pos c43] at h
      refine x_iconst (pc := 34) (v := 1) C (by decide) (d_M_rename 18 rfl) ?_
      refine x_goto (pc := 35) (tgt := 39) C (d_M_rename 19 rfl) (by decide) ?_
      exact x_sub [0, 1, 2] rfl (v_M_rename_39 C hret hmn hex _ _ _ _ _ _ _ h)
    · rw [if_neg c43] at h
      refine x_iload_n (pc := 24) C (d_M_rename 13 rfl) rfl 2 rfl ?_
      refine x_iconst (pc := 25) (v := 1) C (by decide) (d_M_rename 14 rfl) ?_
      refine x_bipush (pc := 26) (v := 9) C (by decide) (d_M_rename 15 rfl) ?_
      cases c44 : f_M_in x3 1 9 st with
      | none => rw [c44] at h; cases h
      | some v45 =>
        rw [c44] at h
        dsimp only at h
        refine x_callS (mc := 0) (ms := 0) (pc := 28) (aL := [xI (x3), xI (1), xI (9)]) (K := [xI (s0), xR 32 (s1)]) C cs_M_70 (m_M_in l c44 : x_M l _ _ _ _ (.inl (some (xI v45))) _ 0 0) (by decide) rfl (Nat.le_of_ble_eq_true rfl) (d_M_rename 16 rfl) ?_
        refine x_if_ne (pc := 31) (tgt := 38) C (d_M_rename 17 rfl) (by decide) (fun c46 => ?_) (fun c46 => ?_)
        · rw [if_neg c46] at h
          refine x_iconst (pc := 38) (v := 0) C (by decide) (d_M_rename 20 rfl) ?_
          exact x_sub [0, 1, 2] rfl (v_M_rename_39 C hret hmn hex _ _ _ _ _ _ _ h)
        · rw [if_pos c46] at h
          refine x_iconst (pc := 34) (v := 1) C (by decide) (d_M_rename 18 rfl) ?_
          refine x_goto (pc := 35) (tgt := 39) C (d_M_rename 19 rfl) (by decide) ?_
          exact x_sub [0, 1, 2] rfl (v_M_rename_39 C hret hmn hex _ _ _ _ _ _ _ h)
def f_M_rename (x0 : Nat) (x1 : Int32) (x2 : Int32) (x3 : Int32) (st : XS) : Option (Int32 × XS) :=
  match f_M_isReady x0 x1 st with
  | none => none
  | some v50 =>
    if v50 = 0 then
      f_M_rename_14 x0 x2 x3 1 (some (x0)) st
    else
      f_M_rename_14 x0 x2 x3 0 (some (x0)) st
set_option maxRecDepth 100000 in
set_option maxHeartbeats 4000000 in
theorem m_M_rename (l : Launch) {x0 : Nat} {x1 : Int32} {x2 : Int32} {x3 : Int32} {st : XS} {r : Int32} {st2 : XS} (h : f_M_rename x0 x1 x2 x3 st = some (r, st2)) : x_M l M_M_rename rm_M_rename [xR 32 (some (x0)), xI (x1), xI (x2), xI (x3)] st (.inl (some (xI r))) st2 0 0 := by
  refine x_enter (Nat.le_of_ble_eq_true rfl) ?_
  intro p e s m below meth c D cA g args B C
  have hret := B.2.2.2.2.2.2.2.2.1
  have hmn := B.2.2.2.2.2.2.2.1
  have hex := B.2.2.2.2.2.2.2.2.2.1
  unfold f_M_rename at h
  refine x_aload_n (pc := 0) C (d_M_rename 0 rfl) rfl 0 rfl ?_
  refine x_aload_n (pc := 1) C (d_M_rename 1 rfl) rfl 0 rfl ?_
  refine x_iload_n (pc := 2) C (d_M_rename 2 rfl) rfl 1 rfl ?_
  cases c49 : f_M_isReady x0 x1 st with
  | none => rw [c49] at h; cases h
  | some v50 =>
    rw [c49] at h
    dsimp only at h
    refine x_callV (mc := 0) (ms := 0) (pc := 3) (bL := [xI (x1)]) (K := [xR 32 (some (x0))]) C cs_M_103 (m_M_isReady l c49 : x_M l _ _ _ _ (.inl (some (xI v50))) _ 0 0) (by decide) rfl (Nat.le_of_ble_eq_true rfl) (d_M_rename 3 rfl) ?_
    refine x_if_ne (pc := 6) (tgt := 13) C (d_M_rename 4 rfl) (by decide) (fun c51 => ?_) (fun c51 => ?_)
    · rw [if_neg c51] at h
      refine x_iconst (pc := 13) (v := 0) C (by decide) (d_M_rename 7 rfl) ?_
      exact x_sub [0, 2, 3] rfl (v_M_rename_14 C hret hmn hex _ _ _ _ _ _ h)
    · rw [if_pos c51] at h
      refine x_iconst (pc := 9) (v := 1) C (by decide) (d_M_rename 5 rfl) ?_
      refine x_goto (pc := 10) (tgt := 14) C (d_M_rename 6 rfl) (by decide) ?_
      exact x_sub [0, 2, 3] rfl (v_M_rename_14 C hret hmn hex _ _ _ _ _ _ h)
def f_M_openingOf (x0 : Nat) (x1 : Int32) (x2 : Int32) (st : XS) : Option Int32 :=
  match f_M_in x2 0 7 st with
  | none => none
  | some v2 =>
    if v2 = 0 then
      some ((-1))
    else
      match st.2.2.1 32 x0 4 with
      | none => none
      | some i4 =>
        if x_in (((8 : Int32) * x1) + x2) 64 then
          some (st.1 36 i4 (((8 : Int32) * x1) + x2).toNatClampNeg)
        else none
set_option maxRecDepth 100000 in
set_option maxHeartbeats 4000000 in
theorem m_M_openingOf (l : Launch) {x0 : Nat} {x1 : Int32} {x2 : Int32} {st : XS} {r : Int32} (h : f_M_openingOf x0 x1 x2 st = some r) : x_M l M_M_openingOf rm_M_openingOf [xR 32 (some (x0)), xI (x1), xI (x2)] st (.inl (some (xI r))) st 0 0 := by
  refine x_enter (Nat.le_of_ble_eq_true rfl) ?_
  intro p e s m below meth c D cA g args B C
  have hret := B.2.2.2.2.2.2.2.2.1
  have hmn := B.2.2.2.2.2.2.2.1
  have hex := B.2.2.2.2.2.2.2.2.2.1
  unfold f_M_openingOf at h
  refine x_iload_n (pc := 0) C (d_M_openingOf 0 rfl) rfl 2 rfl ?_
  refine x_iconst (pc := 1) (v := 0) C (by decide) (d_M_openingOf 1 rfl) ?_
  refine x_bipush (pc := 2) (v := 7) C (by decide) (d_M_openingOf 2 rfl) ?_
  cases c1 : f_M_in x2 0 7 st with
  | none => rw [c1] at h; cases h
  | some v2 =>
    rw [c1] at h
    dsimp only at h
    refine x_callS (mc := 0) (ms := 0) (pc := 4) (aL := [xI (x2), xI (0), xI (7)]) (K := []) C cs_M_70 (m_M_in l c1 : x_M l _ _ _ _ (.inl (some (xI v2))) _ 0 0) (by decide) rfl (Nat.le_of_ble_eq_true rfl) (d_M_openingOf 3 rfl) ?_
    refine x_if_eq (pc := 7) (tgt := 24) C (d_M_openingOf 4 rfl) (by decide) (fun c3 => ?_) (fun c3 => ?_)
    · rw [if_pos c3] at h
      refine x_iconst (pc := 24) (v := (-1)) C (by decide) (d_M_openingOf 14 rfl) ?_
      cases h
      exact x_iret (pc := 25) C hret rfl (Nat.zero_le _) (Nat.zero_le _) (d_M_openingOf 15 rfl)
    · rw [if_neg c3] at h
      refine x_aload_n (pc := 10) C (d_M_openingOf 5 rfl) rfl 0 rfl ?_
      refine x_getR (pc := 11) (t := 36) C fl_M_19 rfl rfl (d_M_openingOf 6 rfl) ?_
      refine x_bipush (pc := 14) (v := 8) C (by decide) (d_M_openingOf 7 rfl) ?_
      refine x_iload_n (pc := 16) C (d_M_openingOf 8 rfl) rfl 1 rfl ?_
      refine x_imul (pc := 17) C (d_M_openingOf 9 rfl) ?_
      refine x_iload_n (pc := 18) C (d_M_openingOf 10 rfl) rfl 2 rfl ?_
      refine x_iadd (pc := 19) C (d_M_openingOf 11 rfl) ?_
      cases c5 : st.2.2.1 32 x0 4 with
      | none => rw [c5] at h; cases h
      | some i4 =>
        rw [c5] at h
        dsimp only at h
        by_cases b6 : x_in (((8 : Int32) * x1) + x2) 64
        · rw [if_pos b6] at h
          refine x_iald (pc := 20) C ar_36 b6 (d_M_openingOf 12 rfl) ?_
          refine x_goto (pc := 21) (tgt := 25) C (d_M_openingOf 13 rfl) (by decide) ?_
          cases h
          exact x_iret (pc := 25) C hret rfl (Nat.zero_le _) (Nat.zero_le _) (d_M_openingOf 15 rfl)
        · rw [if_neg b6] at h; cases h
def f_M_seek_102  (x0 : Nat) (x3 : Int32) (x5 : Int32) (s0 : Int64) (st : XS) : Option (Int32 × XS) :=
  if (lg_cmp (s0 + (x3.toInt64)) 0) < 0 then
    some ((-1), st)
  else
    if (lg_cmp (s0 + (x3.toInt64)) 64) ≤ 0 then
      match st.2.2.1 32 x0 8 with
      | none => none
      | some i3 =>
        if x_in x5 20 then
          match (xsI st 40 i3 x5.toNatClampNeg ((s0 + (x3.toInt64)).toInt32)).2.2.1 32 x0 8 with
          | none => none
          | some i6 =>
            if x_in x5 20 then
              some ((xsI st 40 i3 x5.toNatClampNeg ((s0 + (x3.toInt64)).toInt32)).1 40 i6 x5.toNatClampNeg, xsI st 40 i3 x5.toNatClampNeg ((s0 + (x3.toInt64)).toInt32))
            else none
        else none
    else
      some ((-1), st)
set_option maxRecDepth 100000 in
set_option maxHeartbeats 4000000 in
theorem v_M_seek_102 {p : Program} {l : Launch} {e : Env} {s : State} {m : MethodId} {args : Array Value} {below : List Frame} {meth : Method} {c : Code} {D : va_G} {cA : Nat → ClassId} {g0 : Nat → Nat → Nat} {n0 : Nat → Nat} {r : Int32} {st2 : XS} (C : x_C p e rm_M_seek s m args meth c D cA (x_A g0 n0 s.heap.size) M_M_seek.2.1 M_M_seek.1 M_M_seek.2.2.1) (hret : meth.sig.returnType = M_M_seek.2.2.2.1) (hmn : meth.name = M_M_seek.2.2.2.2.2) (hex : c.exceptionTable.toList.map (fun h => (h.startPc, h.endPc, h.handlerPc, h.catchType)) = M_M_seek.2.2.2.2.1)  (x0 : Nat) (x3 : Int32) (x5 : Int32) (s0 : Int64) (st : XS) (h : f_M_seek_102 x0 x3 x5 s0 st = some (r, st2)) : x_V p l e rm_M_seek s m args below meth c D cA (x_A g0 n0 s.heap.size) M_M_seek.2.2.1 g0 n0 (x_MQ D cA g0 n0 below s 0 0 (.inl (some (xI r))) st2) 102 [(0, xR 32 (some (x0))), (3, xI (x3)), (5, xI (x5))] [xL (s0)] st 0 0 := by
  unfold f_M_seek_102 at h
  refine x_iload_n (pc := 102) C (d_M_seek 56 rfl) rfl 1 rfl ?_
  refine x_i2l (pc := 103) C (d_M_seek 57 rfl) ?_
  refine x_ladd (pc := 104) C (d_M_seek 58 rfl) ?_
  refine x_lstore (pc := 105) (L2 := [(6, xL (s0 + (x3.toInt64))), (0, xR 32 (some (x0))), (3, xI (x3)), (5, xI (x5))]) C (d_M_seek 59 rfl) (by decide) rfl ?_
  refine x_lload (pc := 107) C (d_M_seek 60 rfl) 0 rfl ?_
  refine x_lconst (pc := 109) (v := 0) C (by decide) (d_M_seek 61 rfl) ?_
  refine x_lcmp (pc := 110) C (d_M_seek 62 rfl) ?_
  refine x_if_lt (pc := 111) (tgt := 123) C (d_M_seek 63 rfl) (by decide) (fun c1 => ?_) (fun c1 => ?_)
  · rw [if_pos c1] at h
    refine x_iconst (pc := 123) (v := (-1)) C (by decide) (d_M_seek 68 rfl) ?_
    cases h
    exact x_iret (pc := 124) C hret rfl (Nat.zero_le _) (Nat.zero_le _) (d_M_seek 69 rfl)
  · rw [if_neg c1] at h
    refine x_lload (pc := 114) C (d_M_seek 64 rfl) 0 rfl ?_
    refine x_ldc2 (pc := 116) C w_790 (d_M_seek 65 rfl) ?_
    refine x_lcmp (pc := 119) C (d_M_seek 66 rfl) ?_
    refine x_if_le (pc := 120) (tgt := 125) C (d_M_seek 67 rfl) (by decide) (fun c2 => ?_) (fun c2 => ?_)
    · rw [if_pos c2] at h
      refine x_aload_n (pc := 125) C (d_M_seek 70 rfl) rfl 1 rfl ?_
      refine x_getR (pc := 126) (t := 40) C fl_M_32 rfl rfl (d_M_seek 71 rfl) ?_
      refine x_iload (pc := 129) C (d_M_seek 72 rfl) 3 rfl ?_
      refine x_lload (pc := 131) C (d_M_seek 73 rfl) 0 rfl ?_
      refine x_l2i (pc := 133) C (d_M_seek 74 rfl) ?_
      cases c4 : st.2.2.1 32 x0 8 with
      | none => rw [c4] at h; cases h
      | some i3 =>
        rw [c4] at h
        dsimp only at h
        by_cases b5 : x_in x5 20
        · rw [if_pos b5] at h
          refine x_iast (pc := 134) C ar_40 b5 (d_M_seek 75 rfl) ?_
          refine x_aload_n (pc := 135) C (d_M_seek 76 rfl) rfl 1 rfl ?_
          refine x_getR (pc := 136) (t := 40) C fl_M_32 rfl rfl (d_M_seek 77 rfl) ?_
          refine x_iload (pc := 139) C (d_M_seek 78 rfl) 3 rfl ?_
          cases c7 : (xsI st 40 i3 x5.toNatClampNeg ((s0 + (x3.toInt64)).toInt32)).2.2.1 32 x0 8 with
          | none => rw [c7] at h; cases h
          | some i6 =>
            rw [c7] at h
            dsimp only at h
            by_cases b8 : x_in x5 20
            · rw [if_pos b8] at h
              refine x_iald (pc := 141) C ar_40 b8 (d_M_seek 79 rfl) ?_
              cases h
              exact x_iret (pc := 142) C hret rfl (Nat.zero_le _) (Nat.zero_le _) (d_M_seek 80 rfl)
            · rw [if_neg b8] at h; cases h
        · rw [if_neg b5] at h; cases h
    · rw [if_neg c2] at h
      refine x_iconst (pc := 123) (v := (-1)) C (by decide) (d_M_seek 68 rfl) ?_
      cases h
      exact x_iret (pc := 124) C hret rfl (Nat.zero_le _) (Nat.zero_le _) (d_M_seek 69 rfl)
def f_M_seek_29  (x0 : Nat) (x1 : Int32) (x2 : Int32) (x3 : Int32) (x4 : Int32) (s0 : Int32) (s1 : Int32) (s2 : Option Nat) (st : XS) : Option (Int32 × XS) :=
  match s2 with
  | none => none
  | some i9 =>
    match f_M_fails i9 s1 s0 st with
    | none => none
    | some (v12, st13) =>
      if v12 = 0 then
        match f_M_openingOf x0 x1 x2 st13 with
        | none => none
        | some v16 =>
          if v16 < 0 then
            some ((-1), st13)
          else
            match st13.2.2.1 32 x0 6 with
            | none => none
            | some i18 =>
              if x_in v16 20 then
                if (st13.1 38 i18 v16.toNatClampNeg) = 3 then
                  if x4 = 0 then
                    f_M_seek_102 x0 x3 v16 0 st13
                  else
                    if x4 = 1 then
                      match st13.2.2.1 32 x0 8 with
                      | none => none
                      | some i30 =>
                        if x_in v16 20 then
                          f_M_seek_102 x0 x3 v16 ((st13.1 40 i30 v16.toNatClampNeg).toInt64) st13
                        else none
                    else
                      match st13.2.2.1 32 x0 7 with
                      | none => none
                      | some i24 =>
                        if x_in v16 20 then
                          match st13.2.2.1 32 x0 15 with
                          | none => none
                          | some i27 =>
                            if x_in (st13.1 39 i24 v16.toNatClampNeg) 6 then
                              f_M_seek_102 x0 x3 v16 ((st13.1 47 i27 (st13.1 39 i24 v16.toNatClampNeg).toNatClampNeg).toInt64) st13
                            else none
                        else none
                else
                  some ((-1), st13)
              else none
      else
        some (0, st13)
set_option maxRecDepth 100000 in
set_option maxHeartbeats 4000000 in
theorem v_M_seek_29 {p : Program} {l : Launch} {e : Env} {s : State} {m : MethodId} {args : Array Value} {below : List Frame} {meth : Method} {c : Code} {D : va_G} {cA : Nat → ClassId} {g0 : Nat → Nat → Nat} {n0 : Nat → Nat} {r : Int32} {st2 : XS} (C : x_C p e rm_M_seek s m args meth c D cA (x_A g0 n0 s.heap.size) M_M_seek.2.1 M_M_seek.1 M_M_seek.2.2.1) (hret : meth.sig.returnType = M_M_seek.2.2.2.1) (hmn : meth.name = M_M_seek.2.2.2.2.2) (hex : c.exceptionTable.toList.map (fun h => (h.startPc, h.endPc, h.handlerPc, h.catchType)) = M_M_seek.2.2.2.2.1)  (x0 : Nat) (x1 : Int32) (x2 : Int32) (x3 : Int32) (x4 : Int32) (s0 : Int32) (s1 : Int32) (s2 : Option Nat) (st : XS) (h : f_M_seek_29 x0 x1 x2 x3 x4 s0 s1 s2 st = some (r, st2)) : x_V p l e rm_M_seek s m args below meth c D cA (x_A g0 n0 s.heap.size) M_M_seek.2.2.1 g0 n0 (x_MQ D cA g0 n0 below s 0 0 (.inl (some (xI r))) st2) 29 [(0, xR 32 (some (x0))), (1, xI (x1)), (2, xI (x2)), (3, xI (x3)), (4, xI (x4))] [xI (s0), xI (s1), xR 32 (s2)] st 0 0 := by
  unfold f_M_seek_29 at h
  cases c10 : s2 with
  | none => rw [c10] at h; cases h
  | some i9 =>
    rw [c10] at h
    dsimp only at h
    cases c11 : f_M_fails i9 s1 s0 st with
    | none => rw [c11] at h; cases h
    | some w34 =>
      obtain ⟨v12, st13⟩ := w34
      rw [c11] at h
      dsimp only at h
      refine x_callV (mc := 0) (ms := 0) (pc := 29) (bL := [xI (s1), xI (s0)]) (K := []) C cs_M_107 (m_M_fails l c11 : x_M l _ _ _ _ (.inl (some (xI v12))) _ 0 0) (by decide) rfl (Nat.le_of_ble_eq_true rfl) (d_M_seek 16 rfl) ?_
      refine x_if_eq (pc := 32) (tgt := 37) C (d_M_seek 17 rfl) (by decide) (fun c14 => ?_) (fun c14 => ?_)
      · rw [if_pos c14] at h
        refine x_aload_n (pc := 37) C (d_M_seek 20 rfl) rfl 0 rfl ?_
        refine x_iload_n (pc := 38) C (d_M_seek 21 rfl) rfl 1 rfl ?_
        refine x_iload_n (pc := 39) C (d_M_seek 22 rfl) rfl 2 rfl ?_
        cases c15 : f_M_openingOf x0 x1 x2 st13 with
        | none => rw [c15] at h; cases h
        | some v16 =>
          rw [c15] at h
          dsimp only at h
          refine x_callV (mc := 0) (ms := 0) (pc := 40) (bL := [xI (x1), xI (x2)]) (K := []) C cs_M_133 (m_M_openingOf l c15 : x_M l _ _ _ _ (.inl (some (xI v16))) _ 0 0) (by decide) rfl (Nat.le_of_ble_eq_true rfl) (d_M_seek 23 rfl) ?_
          refine x_istore (pc := 43) (L2 := [(5, xI (v16)), (0, xR 32 (some (x0))), (1, xI (x1)), (2, xI (x2)), (3, xI (x3)), (4, xI (x4))]) C (d_M_seek 24 rfl) (by decide) rfl ?_
          refine x_iload (pc := 45) C (d_M_seek 25 rfl) 0 rfl ?_
          refine x_if_lt (pc := 47) (tgt := 61) C (d_M_seek 26 rfl) (by decide) (fun c17 => ?_) (fun c17 => ?_)
          · rw [if_pos c17] at h
            refine x_iconst (pc := 61) (v := (-1)) C (by decide) (d_M_seek 33 rfl) ?_
            cases h
            exact x_iret (pc := 62) C hret rfl (Nat.zero_le _) (Nat.zero_le _) (d_M_seek 34 rfl)
          · rw [if_neg c17] at h
            refine x_aload_n (pc := 50) C (d_M_seek 27 rfl) rfl 1 rfl ?_
            refine x_getR (pc := 51) (t := 38) C fl_M_26 rfl rfl (d_M_seek 28 rfl) ?_
            refine x_iload (pc := 54) C (d_M_seek 29 rfl) 0 rfl ?_
            cases c19 : st13.2.2.1 32 x0 6 with
            | none => rw [c19] at h; cases h
            | some i18 =>
              rw [c19] at h
              dsimp only at h
              by_cases b20 : x_in v16 20
              · rw [if_pos b20] at h
                refine x_iald (pc := 56) C ar_38 b20 (d_M_seek 30 rfl) ?_
                refine x_iconst (pc := 57) (v := 3) C (by decide) (d_M_seek 31 rfl) ?_
                refine x_icmp_eq (pc := 58) (tgt := 63) C (d_M_seek 32 rfl) (by decide) (fun c21 => ?_) (fun c21 => ?_)
                · rw [if_pos c21] at h
                  refine x_iload (pc := 63) C (d_M_seek 35 rfl) 5 rfl ?_
                  refine x_if_ne (pc := 65) (tgt := 72) C (d_M_seek 36 rfl) (by decide) (fun c22 => ?_) (fun c22 => ?_)
                  · rw [if_neg c22] at h
                    refine x_iload (pc := 72) C (d_M_seek 39 rfl) 5 rfl ?_
                    refine x_iconst (pc := 74) (v := 1) C (by decide) (d_M_seek 40 rfl) ?_
                    refine x_icmp_ne (pc := 75) (tgt := 89) C (d_M_seek 41 rfl) (by decide) (fun c23 => ?_) (fun c23 => ?_)
                    · rw [if_neg c23] at h
                      refine x_aload_n (pc := 89) C (d_M_seek 48 rfl) rfl 1 rfl ?_
                      refine x_getR (pc := 90) (t := 47) C fl_M_54 rfl rfl (d_M_seek 49 rfl) ?_
                      refine x_aload_n (pc := 93) C (d_M_seek 50 rfl) rfl 1 rfl ?_
                      refine x_getR (pc := 94) (t := 39) C fl_M_29 rfl rfl (d_M_seek 51 rfl) ?_
                      refine x_iload (pc := 97) C (d_M_seek 52 rfl) 0 rfl ?_
                      cases c25 : st13.2.2.1 32 x0 7 with
                      | none => rw [c25] at h; cases h
                      | some i24 =>
                        rw [c25] at h
                        dsimp only at h
                        by_cases b26 : x_in v16 20
                        · rw [if_pos b26] at h
                          refine x_iald (pc := 99) C ar_39 b26 (d_M_seek 53 rfl) ?_
                          cases c28 : st13.2.2.1 32 x0 15 with
                          | none => rw [c28] at h; cases h
                          | some i27 =>
                            rw [c28] at h
                            dsimp only at h
                            by_cases b29 : x_in (st13.1 39 i24 v16.toNatClampNeg) 6
                            · rw [if_pos b29] at h
                              refine x_iald (pc := 100) C ar_47 b29 (d_M_seek 54 rfl) ?_
                              refine x_i2l (pc := 101) C (d_M_seek 55 rfl) ?_
                              exact x_sub [1, 4, 0] rfl (v_M_seek_102 C hret hmn hex _ _ _ _ _ h)
                            · rw [if_neg b29] at h; cases h
                        · rw [if_neg b26] at h; cases h
                    · rw [if_pos c23] at h
                      refine x_aload_n (pc := 78) C (d_M_seek 42 rfl) rfl 1 rfl ?_
                      refine x_getR (pc := 79) (t := 40) C fl_M_32 rfl rfl (d_M_seek 43 rfl) ?_
                      refine x_iload (pc := 82) C (d_M_seek 44 rfl) 0 rfl ?_
                      cases c31 : st13.2.2.1 32 x0 8 with
                      | none => rw [c31] at h; cases h
                      | some i30 =>
                        rw [c31] at h
                        dsimp only at h
                        by_cases b32 : x_in v16 20
                        · rw [if_pos b32] at h
                          refine x_iald (pc := 84) C ar_40 b32 (d_M_seek 45 rfl) ?_
                          refine x_i2l (pc := 85) C (d_M_seek 46 rfl) ?_
                          refine x_goto (pc := 86) (tgt := 102) C (d_M_seek 47 rfl) (by decide) ?_
                          exact x_sub [1, 4, 0] rfl (v_M_seek_102 C hret hmn hex _ _ _ _ _ h)
                        · rw [if_neg b32] at h; cases h
                  · rw [if_pos c22] at h
                    refine x_lconst (pc := 68) (v := 0) C (by decide) (d_M_seek 37 rfl) ?_
                    refine x_goto (pc := 69) (tgt := 102) C (d_M_seek 38 rfl) (by decide) ?_
                    exact x_sub [1, 4, 0] rfl (v_M_seek_102 C hret hmn hex _ _ _ _ _ h)
                · rw [if_neg c21] at h
                  refine x_iconst (pc := 61) (v := (-1)) C (by decide) (d_M_seek 33 rfl) ?_
                  cases h
                  exact x_iret (pc := 62) C hret rfl (Nat.zero_le _) (Nat.zero_le _) (d_M_seek 34 rfl)
              · rw [if_neg b20] at h; cases h
      · rw [if_neg c14] at h
        refine x_iconst (pc := 35) (v := 0) C (by decide) (d_M_seek 18 rfl) ?_
        cases h
        exact x_iret (pc := 36) C hret rfl (Nat.zero_le _) (Nat.zero_le _) (d_M_seek 19 rfl)
def f_M_seek (x0 : Nat) (x1 : Int32) (x2 : Int32) (x3 : Int32) (x4 : Int32) (st : XS) : Option (Int32 × XS) :=
  match f_M_isReady x0 x1 st with
  | none => none
  | some v36 =>
    if v36 = 0 then
      match f_M_in x4 0 2 st with
      | none => none
      | some v43 =>
        if v43 = 0 then
          f_M_seek_29 x0 x1 x2 x3 x4 1 1 (some (x0)) st
        else
          f_M_seek_29 x0 x1 x2 x3 x4 0 1 (some (x0)) st
    else
      match f_M_in x4 0 2 st with
      | none => none
      | some v39 =>
        if v39 = 0 then
          f_M_seek_29 x0 x1 x2 x3 x4 1 0 (some (x0)) st
        else
          f_M_seek_29 x0 x1 x2 x3 x4 0 0 (some (x0)) st
set_option maxRecDepth 100000 in
set_option maxHeartbeats 4000000 in
theorem m_M_seek (l : Launch) {x0 : Nat} {x1 : Int32} {x2 : Int32} {x3 : Int32} {x4 : Int32} {st : XS} {r : Int32} {st2 : XS} (h : f_M_seek x0 x1 x2 x3 x4 st = some (r, st2)) : x_M l M_M_seek rm_M_seek [xR 32 (some (x0)), xI (x1), xI (x2), xI (x3), xI (x4)] st (.inl (some (xI r))) st2 0 0 := by
  refine x_enter (Nat.le_of_ble_eq_true rfl) ?_
  intro p e s m below meth c D cA g args B C
  have hret := B.2.2.2.2.2.2.2.2.1
  have hmn := B.2.2.2.2.2.2.2.1
  have hex := B.2.2.2.2.2.2.2.2.2.1
  unfold f_M_seek at h
  refine x_aload_n (pc := 0) C (d_M_seek 0 rfl) rfl 0 rfl ?_
  refine x_aload_n (pc := 1) C (d_M_seek 1 rfl) rfl 0 rfl ?_
  refine x_iload_n (pc := 2) C (d_M_seek 2 rfl) rfl 1 rfl ?_
  cases c35 : f_M_isReady x0 x1 st with
  | none => rw [c35] at h; cases h
  | some v36 =>
    rw [c35] at h
    dsimp only at h
    refine x_callV (mc := 0) (ms := 0) (pc := 3) (bL := [xI (x1)]) (K := [xR 32 (some (x0))]) C cs_M_103 (m_M_isReady l c35 : x_M l _ _ _ _ (.inl (some (xI v36))) _ 0 0) (by decide) rfl (Nat.le_of_ble_eq_true rfl) (d_M_seek 3 rfl) ?_
    refine x_if_ne (pc := 6) (tgt := 13) C (d_M_seek 4 rfl) (by decide) (fun c37 => ?_) (fun c37 => ?_)
    · rw [if_neg c37] at h
      refine x_iconst (pc := 13) (v := 0) C (by decide) (d_M_seek 7 rfl) ?_
      refine x_iload (pc := 14) C (d_M_seek 8 rfl) 4 rfl ?_
      refine x_iconst (pc := 16) (v := 0) C (by decide) (d_M_seek 9 rfl) ?_
      refine x_iconst (pc := 17) (v := 2) C (by decide) (d_M_seek 10 rfl) ?_
      cases c38 : f_M_in x4 0 2 st with
      | none => rw [c38] at h; cases h
      | some v39 =>
        rw [c38] at h
        dsimp only at h
        refine x_callS (mc := 0) (ms := 0) (pc := 18) (aL := [xI (x4), xI (0), xI (2)]) (K := [xI (0), xR 32 (some (x0))]) C cs_M_70 (m_M_in l c38 : x_M l _ _ _ _ (.inl (some (xI v39))) _ 0 0) (by decide) rfl (Nat.le_of_ble_eq_true rfl) (d_M_seek 11 rfl) ?_
        refine x_if_ne (pc := 21) (tgt := 28) C (d_M_seek 12 rfl) (by decide) (fun c40 => ?_) (fun c40 => ?_)
        · rw [if_neg c40] at h
          refine x_iconst (pc := 28) (v := 0) C (by decide) (d_M_seek 15 rfl) ?_
          exact x_sub [0, 1, 2, 3, 4] rfl (v_M_seek_29 C hret hmn hex _ _ _ _ _ _ _ _ _ h)
        · rw [if_pos c40] at h
          refine x_iconst (pc := 24) (v := 1) C (by decide) (d_M_seek 13 rfl) ?_
          refine x_goto (pc := 25) (tgt := 29) C (d_M_seek 14 rfl) (by decide) ?_
          exact x_sub [0, 1, 2, 3, 4] rfl (v_M_seek_29 C hret hmn hex _ _ _ _ _ _ _ _ _ h)
    · rw [if_pos c37] at h
      refine x_iconst (pc := 9) (v := 1) C (by decide) (d_M_seek 5 rfl) ?_
      refine x_goto (pc := 10) (tgt := 14) C (d_M_seek 6 rfl) (by decide) ?_
      refine x_iload (pc := 14) C (d_M_seek 8 rfl) 4 rfl ?_
      refine x_iconst (pc := 16) (v := 0) C (by decide) (d_M_seek 9 rfl) ?_
      refine x_iconst (pc := 17) (v := 2) C (by decide) (d_M_seek 10 rfl) ?_
      cases c42 : f_M_in x4 0 2 st with
      | none => rw [c42] at h; cases h
      | some v43 =>
        rw [c42] at h
        dsimp only at h
        refine x_callS (mc := 0) (ms := 0) (pc := 18) (aL := [xI (x4), xI (0), xI (2)]) (K := [xI (1), xR 32 (some (x0))]) C cs_M_70 (m_M_in l c42 : x_M l _ _ _ _ (.inl (some (xI v43))) _ 0 0) (by decide) rfl (Nat.le_of_ble_eq_true rfl) (d_M_seek 11 rfl) ?_
        refine x_if_ne (pc := 21) (tgt := 28) C (d_M_seek 12 rfl) (by decide) (fun c44 => ?_) (fun c44 => ?_)
        · rw [if_neg c44] at h
          refine x_iconst (pc := 28) (v := 0) C (by decide) (d_M_seek 15 rfl) ?_
          exact x_sub [0, 1, 2, 3, 4] rfl (v_M_seek_29 C hret hmn hex _ _ _ _ _ _ _ _ _ h)
        · rw [if_pos c44] at h
          refine x_iconst (pc := 24) (v := 1) C (by decide) (d_M_seek 13 rfl) ?_
          refine x_goto (pc := 25) (tgt := 29) C (d_M_seek 14 rfl) (by decide) ?_
          exact x_sub [0, 1, 2, 3, 4] rfl (v_M_seek_29 C hret hmn hex _ _ _ _ _ _ _ _ _ h)
def f_M_freeDescriptors_4  : Nat → Nat → Int32 → Int32 → Int32 → XS → Option Int32
  | 0, _, _, _, _, _ => none
  | n + 1, x0, x1, x2, x3, st =>
    if 8 ≤ x3 then
      some (x2)
    else
      match st.2.2.1 32 x0 4 with
      | none => none
      | some i2 =>
        if x_in (((8 : Int32) * x1) + x3) 64 then
          if (st.1 36 i2 (((8 : Int32) * x1) + x3).toNatClampNeg) = ((-1)) then
            f_M_freeDescriptors_4 n x0 x1 (x2 + (1 : Int32)) (x3 + 1) st
          else
            f_M_freeDescriptors_4 n x0 x1 x2 (x3 + 1) st
        else none
set_option maxRecDepth 100000 in
set_option maxHeartbeats 4000000 in
theorem v_M_freeDescriptors_4 {p : Program} {l : Launch} {e : Env} {s : State} {m : MethodId} {args : Array Value} {below : List Frame} {meth : Method} {c : Code} {D : va_G} {cA : Nat → ClassId} {g0 : Nat → Nat → Nat} {n0 : Nat → Nat} {r : Int32} (C : x_C p e rm_M_freeDescriptors s m args meth c D cA (x_A g0 n0 s.heap.size) M_M_freeDescriptors.2.1 M_M_freeDescriptors.1 M_M_freeDescriptors.2.2.1) (hret : meth.sig.returnType = M_M_freeDescriptors.2.2.2.1) (hmn : meth.name = M_M_freeDescriptors.2.2.2.2.2) (hex : c.exceptionTable.toList.map (fun h => (h.startPc, h.endPc, h.handlerPc, h.catchType)) = M_M_freeDescriptors.2.2.2.2.1)  : ∀ (n : Nat) (x0 : Nat) (x1 : Int32) (x2 : Int32) (x3 : Int32) (st : XS), f_M_freeDescriptors_4 n x0 x1 x2 x3 st = some r → x_V p l e rm_M_freeDescriptors s m args below meth c D cA (x_A g0 n0 s.heap.size) M_M_freeDescriptors.2.2.1 g0 n0 (x_MQ D cA g0 n0 below s 0 0 (.inl (some (xI r))) st) 4 [(0, xR 32 (some (x0))), (1, xI (x1)), (2, xI (x2)), (3, xI (x3))] [] st 0 0 := by
  intro n
  induction n with
  | zero => intro x0 x1 x2 x3 st h; cases h
  | succ n ih =>
    intro x0 x1 x2 x3 st h
    rw [f_M_freeDescriptors_4.eq_def] at h
    dsimp only at h
    refine x_iload_n (pc := 4) C (d_M_freeDescriptors 4 rfl) rfl 3 rfl ?_
    refine x_bipush (pc := 5) (v := 8) C (by decide) (d_M_freeDescriptors 5 rfl) ?_
    refine x_icmp_ge (pc := 7) (tgt := 39) C (d_M_freeDescriptors 6 rfl) (by decide) (fun c1 => ?_) (fun c1 => ?_)
    · rw [if_pos c1] at h
      refine x_iload_n (pc := 39) C (d_M_freeDescriptors 25 rfl) rfl 2 rfl ?_
      cases h
      exact x_iret (pc := 40) C hret rfl (Nat.zero_le _) (Nat.zero_le _) (d_M_freeDescriptors 26 rfl)
    · rw [if_neg c1] at h
      refine x_aload_n (pc := 10) C (d_M_freeDescriptors 7 rfl) rfl 0 rfl ?_
      refine x_getR (pc := 11) (t := 36) C fl_M_19 rfl rfl (d_M_freeDescriptors 8 rfl) ?_
      refine x_bipush (pc := 14) (v := 8) C (by decide) (d_M_freeDescriptors 9 rfl) ?_
      refine x_iload_n (pc := 16) C (d_M_freeDescriptors 10 rfl) rfl 1 rfl ?_
      refine x_imul (pc := 17) C (d_M_freeDescriptors 11 rfl) ?_
      refine x_iload_n (pc := 18) C (d_M_freeDescriptors 12 rfl) rfl 3 rfl ?_
      refine x_iadd (pc := 19) C (d_M_freeDescriptors 13 rfl) ?_
      cases c3 : st.2.2.1 32 x0 4 with
      | none => rw [c3] at h; cases h
      | some i2 =>
        rw [c3] at h
        dsimp only at h
        by_cases b4 : x_in (((8 : Int32) * x1) + x3) 64
        · rw [if_pos b4] at h
          refine x_iald (pc := 20) C ar_36 b4 (d_M_freeDescriptors 14 rfl) ?_
          refine x_iconst (pc := 21) (v := (-1)) C (by decide) (d_M_freeDescriptors 15 rfl) ?_
          refine x_icmp_ne (pc := 22) (tgt := 31) C (d_M_freeDescriptors 16 rfl) (by decide) (fun c5 => ?_) (fun c5 => ?_)
          · rw [if_neg c5] at h
            refine x_iload_n (pc := 31) C (d_M_freeDescriptors 21 rfl) rfl 2 rfl ?_
            refine x_istore_n (pc := 32) (L2 := [(2, xI (x2)), (0, xR 32 (some (x0))), (1, xI (x1)), (3, xI (x3))]) C (d_M_freeDescriptors 22 rfl) rfl (by decide) rfl ?_
            refine x_iinc (pc := 33) (v := x3 + 1) (L2 := [(3, xI (x3 + 1)), (2, xI (x2)), (0, xR 32 (some (x0))), (1, xI (x1))]) C (d_M_freeDescriptors 23 rfl) 3 rfl rfl (by decide) rfl ?_
            refine x_goto (pc := 36) (tgt := 4) C (d_M_freeDescriptors 24 rfl) (by decide) ?_
            exact x_sub [2, 3, 1, 0] rfl (ih _ _ _ _ _ h)
          · rw [if_pos c5] at h
            refine x_iload_n (pc := 25) C (d_M_freeDescriptors 17 rfl) rfl 2 rfl ?_
            refine x_iconst (pc := 26) (v := 1) C (by decide) (d_M_freeDescriptors 18 rfl) ?_
            refine x_iadd (pc := 27) C (d_M_freeDescriptors 19 rfl) ?_
            refine x_goto (pc := 28) (tgt := 32) C (d_M_freeDescriptors 20 rfl) (by decide) ?_
            refine x_istore_n (pc := 32) (L2 := [(2, xI (x2 + (1 : Int32))), (0, xR 32 (some (x0))), (1, xI (x1)), (3, xI (x3))]) C (d_M_freeDescriptors 22 rfl) rfl (by decide) rfl ?_
            refine x_iinc (pc := 33) (v := x3 + 1) (L2 := [(3, xI (x3 + 1)), (2, xI (x2 + (1 : Int32))), (0, xR 32 (some (x0))), (1, xI (x1))]) C (d_M_freeDescriptors 23 rfl) 3 rfl rfl (by decide) rfl ?_
            refine x_goto (pc := 36) (tgt := 4) C (d_M_freeDescriptors 24 rfl) (by decide) ?_
            exact x_sub [2, 3, 1, 0] rfl (ih _ _ _ _ _ h)
        · rw [if_neg b4] at h; cases h
def f_M_freeDescriptors (x0 : Nat) (x1 : Int32) (st : XS) : Option Int32 :=
  f_M_freeDescriptors_4 100 x0 x1 0 0 st
set_option maxRecDepth 100000 in
set_option maxHeartbeats 4000000 in
theorem m_M_freeDescriptors (l : Launch) {x0 : Nat} {x1 : Int32} {st : XS} {r : Int32} (h : f_M_freeDescriptors x0 x1 st = some r) : x_M l M_M_freeDescriptors rm_M_freeDescriptors [xR 32 (some (x0)), xI (x1)] st (.inl (some (xI r))) st 0 0 := by
  refine x_enter (Nat.le_of_ble_eq_true rfl) ?_
  intro p e s m below meth c D cA g args B C
  have hret := B.2.2.2.2.2.2.2.2.1
  have hmn := B.2.2.2.2.2.2.2.1
  have hex := B.2.2.2.2.2.2.2.2.2.1
  unfold f_M_freeDescriptors at h
  refine x_iconst (pc := 0) (v := 0) C (by decide) (d_M_freeDescriptors 0 rfl) ?_
  refine x_istore_n (pc := 1) (L2 := [(2, xI (0)), (0, xR 32 (some (x0))), (1, xI (x1))]) C (d_M_freeDescriptors 1 rfl) rfl (by decide) rfl ?_
  refine x_iconst (pc := 2) (v := 0) C (by decide) (d_M_freeDescriptors 2 rfl) ?_
  refine x_istore_n (pc := 3) (L2 := [(3, xI (0)), (2, xI (0)), (0, xR 32 (some (x0))), (1, xI (x1))]) C (d_M_freeDescriptors 3 rfl) rfl (by decide) rfl ?_
  exact x_sub [2, 3, 1, 0] rfl (v_M_freeDescriptors_4 C hret hmn hex 100 _ _ _ _ _ h)
def f_M_countOpenings_4  : Nat → Nat → Int32 → Int32 → XS → Option Int32
  | 0, _, _, _, _ => none
  | n + 1, x0, x1, x2, st =>
    if 20 ≤ x2 then
      some (x1)
    else
      match st.2.2.1 32 x0 6 with
      | none => none
      | some i2 =>
        if x_in x2 20 then
          if (st.1 38 i2 x2.toNatClampNeg) ≤ 0 then
            f_M_countOpenings_4 n x0 x1 (x2 + 1) st
          else
            f_M_countOpenings_4 n x0 (x1 + (1 : Int32)) (x2 + 1) st
        else none
set_option maxRecDepth 100000 in
set_option maxHeartbeats 4000000 in
theorem v_M_countOpenings_4 {p : Program} {l : Launch} {e : Env} {s : State} {m : MethodId} {args : Array Value} {below : List Frame} {meth : Method} {c : Code} {D : va_G} {cA : Nat → ClassId} {g0 : Nat → Nat → Nat} {n0 : Nat → Nat} {r : Int32} (C : x_C p e rm_M_countOpenings s m args meth c D cA (x_A g0 n0 s.heap.size) M_M_countOpenings.2.1 M_M_countOpenings.1 M_M_countOpenings.2.2.1) (hret : meth.sig.returnType = M_M_countOpenings.2.2.2.1) (hmn : meth.name = M_M_countOpenings.2.2.2.2.2) (hex : c.exceptionTable.toList.map (fun h => (h.startPc, h.endPc, h.handlerPc, h.catchType)) = M_M_countOpenings.2.2.2.2.1)  : ∀ (n : Nat) (x0 : Nat) (x1 : Int32) (x2 : Int32) (st : XS), f_M_countOpenings_4 n x0 x1 x2 st = some r → x_V p l e rm_M_countOpenings s m args below meth c D cA (x_A g0 n0 s.heap.size) M_M_countOpenings.2.2.1 g0 n0 (x_MQ D cA g0 n0 below s 0 0 (.inl (some (xI r))) st) 4 [(0, xR 32 (some (x0))), (1, xI (x1)), (2, xI (x2))] [] st 0 0 := by
  intro n
  induction n with
  | zero => intro x0 x1 x2 st h; cases h
  | succ n ih =>
    intro x0 x1 x2 st h
    rw [f_M_countOpenings_4.eq_def] at h
    dsimp only at h
    refine x_iload_n (pc := 4) C (d_M_countOpenings 4 rfl) rfl 2 rfl ?_
    refine x_bipush (pc := 5) (v := 20) C (by decide) (d_M_countOpenings 5 rfl) ?_
    refine x_icmp_ge (pc := 7) (tgt := 33) C (d_M_countOpenings 6 rfl) (by decide) (fun c1 => ?_) (fun c1 => ?_)
    · rw [if_pos c1] at h
      refine x_iload_n (pc := 33) C (d_M_countOpenings 20 rfl) rfl 1 rfl ?_
      cases h
      exact x_iret (pc := 34) C hret rfl (Nat.zero_le _) (Nat.zero_le _) (d_M_countOpenings 21 rfl)
    · rw [if_neg c1] at h
      refine x_aload_n (pc := 10) C (d_M_countOpenings 7 rfl) rfl 0 rfl ?_
      refine x_getR (pc := 11) (t := 38) C fl_M_26 rfl rfl (d_M_countOpenings 8 rfl) ?_
      refine x_iload_n (pc := 14) C (d_M_countOpenings 9 rfl) rfl 2 rfl ?_
      cases c3 : st.2.2.1 32 x0 6 with
      | none => rw [c3] at h; cases h
      | some i2 =>
        rw [c3] at h
        dsimp only at h
        by_cases b4 : x_in x2 20
        · rw [if_pos b4] at h
          refine x_iald (pc := 15) C ar_38 b4 (d_M_countOpenings 10 rfl) ?_
          refine x_if_le (pc := 16) (tgt := 25) C (d_M_countOpenings 11 rfl) (by decide) (fun c5 => ?_) (fun c5 => ?_)
          · rw [if_pos c5] at h
            refine x_iload_n (pc := 25) C (d_M_countOpenings 16 rfl) rfl 1 rfl ?_
            refine x_istore_n (pc := 26) (L2 := [(1, xI (x1)), (0, xR 32 (some (x0))), (2, xI (x2))]) C (d_M_countOpenings 17 rfl) rfl (by decide) rfl ?_
            refine x_iinc (pc := 27) (v := x2 + 1) (L2 := [(2, xI (x2 + 1)), (1, xI (x1)), (0, xR 32 (some (x0)))]) C (d_M_countOpenings 18 rfl) 2 rfl rfl (by decide) rfl ?_
            refine x_goto (pc := 30) (tgt := 4) C (d_M_countOpenings 19 rfl) (by decide) ?_
            exact x_sub [2, 1, 0] rfl (ih _ _ _ _ h)
          · rw [if_neg c5] at h
            refine x_iload_n (pc := 19) C (d_M_countOpenings 12 rfl) rfl 1 rfl ?_
            refine x_iconst (pc := 20) (v := 1) C (by decide) (d_M_countOpenings 13 rfl) ?_
            refine x_iadd (pc := 21) C (d_M_countOpenings 14 rfl) ?_
            refine x_goto (pc := 22) (tgt := 26) C (d_M_countOpenings 15 rfl) (by decide) ?_
            refine x_istore_n (pc := 26) (L2 := [(1, xI (x1 + (1 : Int32))), (0, xR 32 (some (x0))), (2, xI (x2))]) C (d_M_countOpenings 17 rfl) rfl (by decide) rfl ?_
            refine x_iinc (pc := 27) (v := x2 + 1) (L2 := [(2, xI (x2 + 1)), (1, xI (x1 + (1 : Int32))), (0, xR 32 (some (x0)))]) C (d_M_countOpenings 18 rfl) 2 rfl rfl (by decide) rfl ?_
            refine x_goto (pc := 30) (tgt := 4) C (d_M_countOpenings 19 rfl) (by decide) ?_
            exact x_sub [2, 1, 0] rfl (ih _ _ _ _ h)
        · rw [if_neg b4] at h; cases h
def f_M_countOpenings (x0 : Nat) (st : XS) : Option Int32 :=
  f_M_countOpenings_4 100 x0 0 0 st
set_option maxRecDepth 100000 in
set_option maxHeartbeats 4000000 in
theorem m_M_countOpenings (l : Launch) {x0 : Nat} {st : XS} {r : Int32} (h : f_M_countOpenings x0 st = some r) : x_M l M_M_countOpenings rm_M_countOpenings [xR 32 (some (x0))] st (.inl (some (xI r))) st 0 0 := by
  refine x_enter (Nat.le_of_ble_eq_true rfl) ?_
  intro p e s m below meth c D cA g args B C
  have hret := B.2.2.2.2.2.2.2.2.1
  have hmn := B.2.2.2.2.2.2.2.1
  have hex := B.2.2.2.2.2.2.2.2.2.1
  unfold f_M_countOpenings at h
  refine x_iconst (pc := 0) (v := 0) C (by decide) (d_M_countOpenings 0 rfl) ?_
  refine x_istore_n (pc := 1) (L2 := [(1, xI (0)), (0, xR 32 (some (x0)))]) C (d_M_countOpenings 1 rfl) rfl (by decide) rfl ?_
  refine x_iconst (pc := 2) (v := 0) C (by decide) (d_M_countOpenings 2 rfl) ?_
  refine x_istore_n (pc := 3) (L2 := [(2, xI (0)), (1, xI (0)), (0, xR 32 (some (x0)))]) C (d_M_countOpenings 3 rfl) rfl (by decide) rfl ?_
  exact x_sub [2, 1, 0] rfl (v_M_countOpenings_4 C hret hmn hex 100 _ _ _ _ h)
def f_M_pipe_46  (x0 : Nat) (x1 : Int32) (x2 : Int32) (st : XS) : Option (Int32 × XS) :=
  match f_M_freeDescriptors x0 x1 st with
  | none => none
  | some v2 =>
    if v2 < 2 then
      some ((-4), st)
    else
      match f_M_countOpenings x0 st with
      | none => none
      | some v5 =>
        if 18 < v5 then
          some ((-4), st)
        else
          if x2 = 6 then
            some ((-4), st)
          else
            match st.2.2.1 32 x0 12 with
            | none => none
            | some i8 =>
              if x_in x2 6 then
                match (xsI st 44 i8 x2.toNatClampNeg ((1 : Int32) &&& 1)).2.2.1 32 x0 10 with
                | none => none
                | some i11 =>
                  if x_in x2 6 then
                    match f_M_newOpening x0 1 x2 1 (xsI (xsI st 44 i8 x2.toNatClampNeg ((1 : Int32) &&& 1)) 42 i11 x2.toNatClampNeg 0) with
                    | none => none
                    | some (v15, st16) =>
                      match f_M_give x0 x1 v15 st16 with
                      | none => none
                      | some (v18, st19) =>
                        match f_M_newOpening x0 2 x2 2 st19 with
                        | none => none
                        | some (v21, st22) =>
                          match f_M_give x0 x1 v21 st22 with
                          | none => none
                          | some (v24, st25) =>
                            some (v18 + ((8 : Int32) * v24), st25)
                  else none
              else none
set_option maxRecDepth 100000 in
set_option maxHeartbeats 4000000 in
theorem v_M_pipe_46 {p : Program} {l : Launch} {e : Env} {s : State} {m : MethodId} {args : Array Value} {below : List Frame} {meth : Method} {c : Code} {D : va_G} {cA : Nat → ClassId} {g0 : Nat → Nat → Nat} {n0 : Nat → Nat} {r : Int32} {st2 : XS} (C : x_C p e rm_M_pipe s m args meth c D cA (x_A g0 n0 s.heap.size) M_M_pipe.2.1 M_M_pipe.1 M_M_pipe.2.2.1) (hret : meth.sig.returnType = M_M_pipe.2.2.2.1) (hmn : meth.name = M_M_pipe.2.2.2.2.2) (hex : c.exceptionTable.toList.map (fun h => (h.startPc, h.endPc, h.handlerPc, h.catchType)) = M_M_pipe.2.2.2.2.1)  (x0 : Nat) (x1 : Int32) (x2 : Int32) (st : XS) (h : f_M_pipe_46 x0 x1 x2 st = some (r, st2)) : x_V p l e rm_M_pipe s m args below meth c D cA (x_A g0 n0 s.heap.size) M_M_pipe.2.2.1 g0 n0 (x_MQ D cA g0 n0 below s 0 0 (.inl (some (xI r))) st2) 46 [(0, xR 32 (some (x0))), (1, xI (x1)), (2, xI (x2))] [] st 0 0 := by
  unfold f_M_pipe_46 at h
  refine x_aload_n (pc := 46) C (d_M_pipe 25 rfl) rfl 0 rfl ?_
  refine x_iload_n (pc := 47) C (d_M_pipe 26 rfl) rfl 1 rfl ?_
  cases c1 : f_M_freeDescriptors x0 x1 st with
  | none => rw [c1] at h; cases h
  | some v2 =>
    rw [c1] at h
    dsimp only at h
    refine x_callV (mc := 0) (ms := 0) (pc := 48) (bL := [xI (x1)]) (K := []) C cs_M_138 (m_M_freeDescriptors l c1 : x_M l _ _ _ _ (.inl (some (xI v2))) _ 0 0) (by decide) rfl (Nat.le_of_ble_eq_true rfl) (d_M_pipe 27 rfl) ?_
    refine x_iconst (pc := 51) (v := 2) C (by decide) (d_M_pipe 28 rfl) ?_
    refine x_icmp_lt (pc := 52) (tgt := 70) C (d_M_pipe 29 rfl) (by decide) (fun c3 => ?_) (fun c3 => ?_)
    · rw [if_pos c3] at h
      refine x_bipush (pc := 70) (v := (-4)) C (by decide) (d_M_pipe 37 rfl) ?_
      cases h
      exact x_iret (pc := 72) C hret rfl (Nat.zero_le _) (Nat.zero_le _) (d_M_pipe 38 rfl)
    · rw [if_neg c3] at h
      refine x_aload_n (pc := 55) C (d_M_pipe 30 rfl) rfl 0 rfl ?_
      cases c4 : f_M_countOpenings x0 st with
      | none => rw [c4] at h; cases h
      | some v5 =>
        rw [c4] at h
        dsimp only at h
        refine x_callV (mc := 0) (ms := 0) (pc := 56) (bL := []) (K := []) C cs_M_141 (m_M_countOpenings l c4 : x_M l _ _ _ _ (.inl (some (xI v5))) _ 0 0) (by decide) rfl (Nat.le_of_ble_eq_true rfl) (d_M_pipe 31 rfl) ?_
        refine x_bipush (pc := 59) (v := 18) C (by decide) (d_M_pipe 32 rfl) ?_
        refine x_icmp_gt (pc := 61) (tgt := 70) C (d_M_pipe 33 rfl) (by decide) (fun c6 => ?_) (fun c6 => ?_)
        · rw [if_pos c6] at h
          refine x_bipush (pc := 70) (v := (-4)) C (by decide) (d_M_pipe 37 rfl) ?_
          cases h
          exact x_iret (pc := 72) C hret rfl (Nat.zero_le _) (Nat.zero_le _) (d_M_pipe 38 rfl)
        · rw [if_neg c6] at h
          refine x_iload_n (pc := 64) C (d_M_pipe 34 rfl) rfl 2 rfl ?_
          refine x_bipush (pc := 65) (v := 6) C (by decide) (d_M_pipe 35 rfl) ?_
          refine x_icmp_ne (pc := 67) (tgt := 73) C (d_M_pipe 36 rfl) (by decide) (fun c7 => ?_) (fun c7 => ?_)
          · rw [if_neg c7] at h
            refine x_aload_n (pc := 73) C (d_M_pipe 39 rfl) rfl 0 rfl ?_
            refine x_getR (pc := 74) (t := 44) C fl_M_44 rfl rfl (d_M_pipe 40 rfl) ?_
            refine x_iload_n (pc := 77) C (d_M_pipe 41 rfl) rfl 2 rfl ?_
            refine x_iconst (pc := 78) (v := 1) C (by decide) (d_M_pipe 42 rfl) ?_
            cases c9 : st.2.2.1 32 x0 12 with
            | none => rw [c9] at h; cases h
            | some i8 =>
              rw [c9] at h
              dsimp only at h
              by_cases b10 : x_in x2 6
              · rw [if_pos b10] at h
                refine x_zast (pc := 79) C ar_44 b10 (d_M_pipe 43 rfl) ?_
                refine x_aload_n (pc := 80) C (d_M_pipe 44 rfl) rfl 0 rfl ?_
                refine x_getR (pc := 81) (t := 42) C fl_M_38 rfl rfl (d_M_pipe 45 rfl) ?_
                refine x_iload_n (pc := 84) C (d_M_pipe 46 rfl) rfl 2 rfl ?_
                refine x_iconst (pc := 85) (v := 0) C (by decide) (d_M_pipe 47 rfl) ?_
                cases c12 : (xsI st 44 i8 x2.toNatClampNeg ((1 : Int32) &&& 1)).2.2.1 32 x0 10 with
                | none => rw [c12] at h; cases h
                | some i11 =>
                  rw [c12] at h
                  dsimp only at h
                  by_cases b13 : x_in x2 6
                  · rw [if_pos b13] at h
                    refine x_iast (pc := 86) C ar_42 b13 (d_M_pipe 48 rfl) ?_
                    refine x_aload_n (pc := 87) C (d_M_pipe 49 rfl) rfl 0 rfl ?_
                    refine x_iload_n (pc := 88) C (d_M_pipe 50 rfl) rfl 1 rfl ?_
                    refine x_aload_n (pc := 89) C (d_M_pipe 51 rfl) rfl 0 rfl ?_
                    refine x_iconst (pc := 90) (v := 1) C (by decide) (d_M_pipe 52 rfl) ?_
                    refine x_iload_n (pc := 91) C (d_M_pipe 53 rfl) rfl 2 rfl ?_
                    refine x_iconst (pc := 92) (v := 1) C (by decide) (d_M_pipe 54 rfl) ?_
                    cases c14 : f_M_newOpening x0 1 x2 1 (xsI (xsI st 44 i8 x2.toNatClampNeg ((1 : Int32) &&& 1)) 42 i11 x2.toNatClampNeg 0) with
                    | none => rw [c14] at h; cases h
                    | some w29 =>
                      obtain ⟨v15, st16⟩ := w29
                      rw [c14] at h
                      dsimp only at h
                      refine x_callV (mc := 0) (ms := 0) (pc := 93) (bL := [xI (1), xI (x2), xI (1)]) (K := [xI (x1), xR 32 (some (x0))]) C cs_M_96 (m_M_newOpening l c14 : x_M l _ _ _ _ (.inl (some (xI v15))) _ 0 0) (by decide) rfl (Nat.le_of_ble_eq_true rfl) (d_M_pipe 55 rfl) ?_
                      cases c17 : f_M_give x0 x1 v15 st16 with
                      | none => rw [c17] at h; cases h
                      | some w28 =>
                        obtain ⟨v18, st19⟩ := w28
                        rw [c17] at h
                        dsimp only at h
                        refine x_callV (mc := 0) (ms := 0) (pc := 96) (bL := [xI (x1), xI (v15)]) (K := []) C cs_M_100 (m_M_give l c17 : x_M l _ _ _ _ (.inl (some (xI v18))) _ 0 0) (by decide) rfl (Nat.le_of_ble_eq_true rfl) (d_M_pipe 56 rfl) ?_
                        refine x_istore_n (pc := 99) (L2 := [(3, xI (v18)), (0, xR 32 (some (x0))), (1, xI (x1)), (2, xI (x2))]) C (d_M_pipe 57 rfl) rfl (by decide) rfl ?_
                        refine x_iload_n (pc := 100) C (d_M_pipe 58 rfl) rfl 0 rfl ?_
                        refine x_bipush (pc := 101) (v := 8) C (by decide) (d_M_pipe 59 rfl) ?_
                        refine x_aload_n (pc := 103) C (d_M_pipe 60 rfl) rfl 1 rfl ?_
                        refine x_iload_n (pc := 104) C (d_M_pipe 61 rfl) rfl 2 rfl ?_
                        refine x_aload_n (pc := 105) C (d_M_pipe 62 rfl) rfl 1 rfl ?_
                        refine x_iconst (pc := 106) (v := 2) C (by decide) (d_M_pipe 63 rfl) ?_
                        refine x_iload_n (pc := 107) C (d_M_pipe 64 rfl) rfl 3 rfl ?_
                        refine x_iconst (pc := 108) (v := 2) C (by decide) (d_M_pipe 65 rfl) ?_
                        cases c20 : f_M_newOpening x0 2 x2 2 st19 with
                        | none => rw [c20] at h; cases h
                        | some w27 =>
                          obtain ⟨v21, st22⟩ := w27
                          rw [c20] at h
                          dsimp only at h
                          refine x_callV (mc := 0) (ms := 0) (pc := 109) (bL := [xI (2), xI (x2), xI (2)]) (K := [xI (x1), xR 32 (some (x0)), xI (8), xI (v18)]) C cs_M_96 (m_M_newOpening l c20 : x_M l _ _ _ _ (.inl (some (xI v21))) _ 0 0) (by decide) rfl (Nat.le_of_ble_eq_true rfl) (d_M_pipe 66 rfl) ?_
                          cases c23 : f_M_give x0 x1 v21 st22 with
                          | none => rw [c23] at h; cases h
                          | some w26 =>
                            obtain ⟨v24, st25⟩ := w26
                            rw [c23] at h
                            dsimp only at h
                            refine x_callV (mc := 0) (ms := 0) (pc := 112) (bL := [xI (x1), xI (v21)]) (K := [xI (8), xI (v18)]) C cs_M_100 (m_M_give l c23 : x_M l _ _ _ _ (.inl (some (xI v24))) _ 0 0) (by decide) rfl (Nat.le_of_ble_eq_true rfl) (d_M_pipe 67 rfl) ?_
                            refine x_imul (pc := 115) C (d_M_pipe 68 rfl) ?_
                            refine x_iadd (pc := 116) C (d_M_pipe 69 rfl) ?_
                            cases h
                            exact x_iret (pc := 117) C hret rfl (Nat.zero_le _) (Nat.zero_le _) (d_M_pipe 70 rfl)
                  · rw [if_neg b13] at h; cases h
              · rw [if_neg b10] at h; cases h
          · rw [if_pos c7] at h
            refine x_bipush (pc := 70) (v := (-4)) C (by decide) (d_M_pipe 37 rfl) ?_
            cases h
            exact x_iret (pc := 72) C hret rfl (Nat.zero_le _) (Nat.zero_le _) (d_M_pipe 38 rfl)
def f_M_pipe_25  : Nat → Nat → Int32 → Int32 → XS → Option (Int32 × XS)
  | 0, _, _, _, _ => none
  | n + 1, x0, x1, x2, st =>
    if 6 ≤ x2 then
      f_M_pipe_46 x0 x1 x2 st
    else
      match st.2.2.1 32 x0 12 with
      | none => none
      | some i33 =>
        if x_in x2 6 then
          if (st.1 44 i33 x2.toNatClampNeg) = 0 then
            f_M_pipe_46 x0 x1 x2 st
          else
            f_M_pipe_25 n x0 x1 (x2 + 1) st
        else none
set_option maxRecDepth 100000 in
set_option maxHeartbeats 4000000 in
theorem v_M_pipe_25 {p : Program} {l : Launch} {e : Env} {s : State} {m : MethodId} {args : Array Value} {below : List Frame} {meth : Method} {c : Code} {D : va_G} {cA : Nat → ClassId} {g0 : Nat → Nat → Nat} {n0 : Nat → Nat} {r : Int32} {st2 : XS} (C : x_C p e rm_M_pipe s m args meth c D cA (x_A g0 n0 s.heap.size) M_M_pipe.2.1 M_M_pipe.1 M_M_pipe.2.2.1) (hret : meth.sig.returnType = M_M_pipe.2.2.2.1) (hmn : meth.name = M_M_pipe.2.2.2.2.2) (hex : c.exceptionTable.toList.map (fun h => (h.startPc, h.endPc, h.handlerPc, h.catchType)) = M_M_pipe.2.2.2.2.1)  : ∀ (n : Nat) (x0 : Nat) (x1 : Int32) (x2 : Int32) (st : XS), f_M_pipe_25 n x0 x1 x2 st = some (r, st2) → x_V p l e rm_M_pipe s m args below meth c D cA (x_A g0 n0 s.heap.size) M_M_pipe.2.2.1 g0 n0 (x_MQ D cA g0 n0 below s 0 0 (.inl (some (xI r))) st2) 25 [(0, xR 32 (some (x0))), (1, xI (x1)), (2, xI (x2))] [] st 0 0 := by
  intro n
  induction n with
  | zero => intro x0 x1 x2 st h; cases h
  | succ n ih =>
    intro x0 x1 x2 st h
    rw [f_M_pipe_25.eq_def] at h
    dsimp only at h
    refine x_iload_n (pc := 25) C (d_M_pipe 15 rfl) rfl 2 rfl ?_
    refine x_bipush (pc := 26) (v := 6) C (by decide) (d_M_pipe 16 rfl) ?_
    refine x_icmp_ge (pc := 28) (tgt := 46) C (d_M_pipe 17 rfl) (by decide) (fun c32 => ?_) (fun c32 => ?_)
    · rw [if_pos c32] at h
      exact x_sub [0, 1, 2] rfl (v_M_pipe_46 C hret hmn hex _ _ _ _ h)
    · rw [if_neg c32] at h
      refine x_aload_n (pc := 31) C (d_M_pipe 18 rfl) rfl 0 rfl ?_
      refine x_getR (pc := 32) (t := 44) C fl_M_44 rfl rfl (d_M_pipe 19 rfl) ?_
      refine x_iload_n (pc := 35) C (d_M_pipe 20 rfl) rfl 2 rfl ?_
      cases c34 : st.2.2.1 32 x0 12 with
      | none => rw [c34] at h; cases h
      | some i33 =>
        rw [c34] at h
        dsimp only at h
        by_cases b35 : x_in x2 6
        · rw [if_pos b35] at h
          refine x_zald (pc := 36) C ar_44 b35 (d_M_pipe 21 rfl) ?_
          refine x_if_eq (pc := 37) (tgt := 46) C (d_M_pipe 22 rfl) (by decide) (fun c36 => ?_) (fun c36 => ?_)
          · rw [if_pos c36] at h
            exact x_sub [0, 1, 2] rfl (v_M_pipe_46 C hret hmn hex _ _ _ _ h)
          · rw [if_neg c36] at h
            refine x_iinc (pc := 40) (v := x2 + 1) (L2 := [(2, xI (x2 + 1)), (0, xR 32 (some (x0))), (1, xI (x1))]) C (d_M_pipe 23 rfl) 2 rfl rfl (by decide) rfl ?_
            refine x_goto (pc := 43) (tgt := 25) C (d_M_pipe 24 rfl) (by decide) ?_
            exact x_sub [1, 2, 0] rfl (ih _ _ _ _ h)
        · rw [if_neg b35] at h; cases h
def f_M_pipe (x0 : Nat) (x1 : Int32) (st : XS) : Option (Int32 × XS) :=
  match f_M_isReady x0 x1 st with
  | none => none
  | some v38 =>
    if v38 = 0 then
      match f_M_fails x0 1 0 st with
      | none => none
      | some (v46, st47) =>
        if v46 = 0 then
          f_M_pipe_25 100 x0 x1 0 st47
        else
          some (0, st47)
    else
      match f_M_fails x0 0 0 st with
      | none => none
      | some (v41, st42) =>
        if v41 = 0 then
          f_M_pipe_25 100 x0 x1 0 st42
        else
          some (0, st42)
set_option maxRecDepth 100000 in
set_option maxHeartbeats 4000000 in
theorem m_M_pipe (l : Launch) {x0 : Nat} {x1 : Int32} {st : XS} {r : Int32} {st2 : XS} (h : f_M_pipe x0 x1 st = some (r, st2)) : x_M l M_M_pipe rm_M_pipe [xR 32 (some (x0)), xI (x1)] st (.inl (some (xI r))) st2 0 0 := by
  refine x_enter (Nat.le_of_ble_eq_true rfl) ?_
  intro p e s m below meth c D cA g args B C
  have hret := B.2.2.2.2.2.2.2.2.1
  have hmn := B.2.2.2.2.2.2.2.1
  have hex := B.2.2.2.2.2.2.2.2.2.1
  unfold f_M_pipe at h
  refine x_aload_n (pc := 0) C (d_M_pipe 0 rfl) rfl 0 rfl ?_
  refine x_aload_n (pc := 1) C (d_M_pipe 1 rfl) rfl 0 rfl ?_
  refine x_iload_n (pc := 2) C (d_M_pipe 2 rfl) rfl 1 rfl ?_
  cases c37 : f_M_isReady x0 x1 st with
  | none => rw [c37] at h; cases h
  | some v38 =>
    rw [c37] at h
    dsimp only at h
    refine x_callV (mc := 0) (ms := 0) (pc := 3) (bL := [xI (x1)]) (K := [xR 32 (some (x0))]) C cs_M_103 (m_M_isReady l c37 : x_M l _ _ _ _ (.inl (some (xI v38))) _ 0 0) (by decide) rfl (Nat.le_of_ble_eq_true rfl) (d_M_pipe 3 rfl) ?_
    refine x_if_ne (pc := 6) (tgt := 13) C (d_M_pipe 4 rfl) (by decide) (fun c39 => ?_) (fun c39 => ?_)
    · rw [if_neg c39] at h
      refine x_iconst (pc := 13) (v := 0) C (by decide) (d_M_pipe 7 rfl) ?_
      refine x_iconst (pc := 14) (v := 0) C (by decide) (d_M_pipe 8 rfl) ?_
      cases c40 : f_M_fails x0 0 0 st with
      | none => rw [c40] at h; cases h
      | some w44 =>
        obtain ⟨v41, st42⟩ := w44
        rw [c40] at h
        dsimp only at h
        refine x_callV (mc := 0) (ms := 0) (pc := 15) (bL := [xI (0), xI (0)]) (K := []) C cs_M_107 (m_M_fails l c40 : x_M l _ _ _ _ (.inl (some (xI v41))) _ 0 0) (by decide) rfl (Nat.le_of_ble_eq_true rfl) (d_M_pipe 9 rfl) ?_
        refine x_if_eq (pc := 18) (tgt := 23) C (d_M_pipe 10 rfl) (by decide) (fun c43 => ?_) (fun c43 => ?_)
        · rw [if_pos c43] at h
          refine x_iconst (pc := 23) (v := 0) C (by decide) (d_M_pipe 13 rfl) ?_
          refine x_istore_n (pc := 24) (L2 := [(2, xI (0)), (0, xR 32 (some (x0))), (1, xI (x1))]) C (d_M_pipe 14 rfl) rfl (by decide) rfl ?_
          exact x_sub [1, 2, 0] rfl (v_M_pipe_25 C hret hmn hex 100 _ _ _ _ h)
        · rw [if_neg c43] at h
          refine x_iconst (pc := 21) (v := 0) C (by decide) (d_M_pipe 11 rfl) ?_
          cases h
          exact x_iret (pc := 22) C hret rfl (Nat.zero_le _) (Nat.zero_le _) (d_M_pipe 12 rfl)
    · rw [if_pos c39] at h
      refine x_iconst (pc := 9) (v := 1) C (by decide) (d_M_pipe 5 rfl) ?_
      refine x_goto (pc := 10) (tgt := 14) C (d_M_pipe 6 rfl) (by decide) ?_
      refine x_iconst (pc := 14) (v := 0) C (by decide) (d_M_pipe 8 rfl) ?_
      cases c45 : f_M_fails x0 1 0 st with
      | none => rw [c45] at h; cases h
      | some w49 =>
        obtain ⟨v46, st47⟩ := w49
        rw [c45] at h
        dsimp only at h
        refine x_callV (mc := 0) (ms := 0) (pc := 15) (bL := [xI (1), xI (0)]) (K := []) C cs_M_107 (m_M_fails l c45 : x_M l _ _ _ _ (.inl (some (xI v46))) _ 0 0) (by decide) rfl (Nat.le_of_ble_eq_true rfl) (d_M_pipe 9 rfl) ?_
        refine x_if_eq (pc := 18) (tgt := 23) C (d_M_pipe 10 rfl) (by decide) (fun c48 => ?_) (fun c48 => ?_)
        · rw [if_pos c48] at h
          refine x_iconst (pc := 23) (v := 0) C (by decide) (d_M_pipe 13 rfl) ?_
          refine x_istore_n (pc := 24) (L2 := [(2, xI (0)), (0, xR 32 (some (x0))), (1, xI (x1))]) C (d_M_pipe 14 rfl) rfl (by decide) rfl ?_
          exact x_sub [1, 2, 0] rfl (v_M_pipe_25 C hret hmn hex 100 _ _ _ _ h)
        · rw [if_neg c48] at h
          refine x_iconst (pc := 21) (v := 0) C (by decide) (d_M_pipe 11 rfl) ?_
          cases h
          exact x_iret (pc := 22) C hret rfl (Nat.zero_le _) (Nat.zero_le _) (d_M_pipe 12 rfl)
def f_M_waitFor (x0 : Nat) (x1 : Int32) (x2 : Int32) (x3 : Int32) (x4 : Int32) (st : XS) : Option (Int32 × XS) :=
  match st.2.2.1 32 x0 1 with
  | none => none
  | some i1 =>
    if x_in x1 8 then
      match (xsI st 33 i1 x1.toNatClampNeg x4).2.2.1 32 x0 2 with
      | none => none
      | some i4 =>
        if x_in x1 8 then
          match (xsI (xsI st 33 i1 x1.toNatClampNeg x4) 34 i4 x1.toNatClampNeg x2).2.2.1 32 x0 3 with
          | none => none
          | some i7 =>
            if x_in x1 8 then
              some ((-6), xsI (xsI (xsI st 33 i1 x1.toNatClampNeg x4) 34 i4 x1.toNatClampNeg x2) 35 i7 x1.toNatClampNeg x3)
            else none
        else none
    else none
set_option maxRecDepth 100000 in
set_option maxHeartbeats 4000000 in
theorem m_M_waitFor (l : Launch) {x0 : Nat} {x1 : Int32} {x2 : Int32} {x3 : Int32} {x4 : Int32} {st : XS} {r : Int32} {st2 : XS} (h : f_M_waitFor x0 x1 x2 x3 x4 st = some (r, st2)) : x_M l M_M_waitFor rm_M_waitFor [xR 32 (some (x0)), xI (x1), xI (x2), xI (x3), xI (x4)] st (.inl (some (xI r))) st2 0 0 := by
  refine x_enter (Nat.le_of_ble_eq_true rfl) ?_
  intro p e s m below meth c D cA g args B C
  have hret := B.2.2.2.2.2.2.2.2.1
  have hmn := B.2.2.2.2.2.2.2.1
  have hex := B.2.2.2.2.2.2.2.2.2.1
  unfold f_M_waitFor at h
  refine x_aload_n (pc := 0) C (d_M_waitFor 0 rfl) rfl 0 rfl ?_
  refine x_getR (pc := 1) (t := 33) C fl_M_7 rfl rfl (d_M_waitFor 1 rfl) ?_
  refine x_iload_n (pc := 4) C (d_M_waitFor 2 rfl) rfl 1 rfl ?_
  refine x_iload (pc := 5) C (d_M_waitFor 3 rfl) 4 rfl ?_
  cases c2 : st.2.2.1 32 x0 1 with
  | none => rw [c2] at h; cases h
  | some i1 =>
    rw [c2] at h
    dsimp only at h
    by_cases b3 : x_in x1 8
    · rw [if_pos b3] at h
      refine x_iast (pc := 7) C ar_33 b3 (d_M_waitFor 4 rfl) ?_
      refine x_aload_n (pc := 8) C (d_M_waitFor 5 rfl) rfl 0 rfl ?_
      refine x_getR (pc := 9) (t := 34) C fl_M_13 rfl rfl (d_M_waitFor 6 rfl) ?_
      refine x_iload_n (pc := 12) C (d_M_waitFor 7 rfl) rfl 1 rfl ?_
      refine x_iload_n (pc := 13) C (d_M_waitFor 8 rfl) rfl 2 rfl ?_
      cases c5 : (xsI st 33 i1 x1.toNatClampNeg x4).2.2.1 32 x0 2 with
      | none => rw [c5] at h; cases h
      | some i4 =>
        rw [c5] at h
        dsimp only at h
        by_cases b6 : x_in x1 8
        · rw [if_pos b6] at h
          refine x_iast (pc := 14) C ar_34 b6 (d_M_waitFor 9 rfl) ?_
          refine x_aload_n (pc := 15) C (d_M_waitFor 10 rfl) rfl 0 rfl ?_
          refine x_getR (pc := 16) (t := 35) C fl_M_16 rfl rfl (d_M_waitFor 11 rfl) ?_
          refine x_iload_n (pc := 19) C (d_M_waitFor 12 rfl) rfl 1 rfl ?_
          refine x_iload_n (pc := 20) C (d_M_waitFor 13 rfl) rfl 3 rfl ?_
          cases c8 : (xsI (xsI st 33 i1 x1.toNatClampNeg x4) 34 i4 x1.toNatClampNeg x2).2.2.1 32 x0 3 with
          | none => rw [c8] at h; cases h
          | some i7 =>
            rw [c8] at h
            dsimp only at h
            by_cases b9 : x_in x1 8
            · rw [if_pos b9] at h
              refine x_iast (pc := 21) C ar_35 b9 (d_M_waitFor 14 rfl) ?_
              refine x_bipush (pc := 22) (v := (-6)) C (by decide) (d_M_waitFor 15 rfl) ?_
              cases h
              exact x_iret (pc := 24) C hret rfl (Nat.zero_le _) (Nat.zero_le _) (d_M_waitFor 16 rfl)
            · rw [if_neg b9] at h; cases h
        · rw [if_neg b6] at h; cases h
    · rw [if_neg b3] at h; cases h
def f_M_take (x0 : Nat) (x1 : Int32) (x2 : Int32) (x3 : Int32) (st : XS) : Option (Unit × XS) :=
  if x3 = 0 then
    match st.2.2.1 32 x0 5 with
    | none => none
    | some i6 =>
      if x_in x1 8 then
        some ((), xsJ st 37 i6 x1.toNatClampNeg (x2.toInt64))
      else none
  else
    match st.2.2.1 32 x0 5 with
    | none => none
    | some i2 =>
      if x_in x1 8 then
        if x_in x1 8 then
          some ((), xsJ st 37 i2 x1.toNatClampNeg (((st.2.1 37 i2 x1.toNatClampNeg) <<< ((8 : Int32).toInt64 &&& 63)) ||| (x2.toInt64)))
        else none
      else none
set_option maxRecDepth 100000 in
set_option maxHeartbeats 4000000 in
theorem m_M_take (l : Launch) {x0 : Nat} {x1 : Int32} {x2 : Int32} {x3 : Int32} {st : XS} {r : Unit} {st2 : XS} (h : f_M_take x0 x1 x2 x3 st = some (r, st2)) : x_M l M_M_take rm_M_take [xR 32 (some (x0)), xI (x1), xI (x2), xI (x3)] st (.inl (none)) st2 0 0 := by
  refine x_enter (Nat.le_of_ble_eq_true rfl) ?_
  intro p e s m below meth c D cA g args B C
  have hret := B.2.2.2.2.2.2.2.2.1
  have hmn := B.2.2.2.2.2.2.2.1
  have hex := B.2.2.2.2.2.2.2.2.2.1
  unfold f_M_take at h
  refine x_aload_n (pc := 0) C (d_M_take 0 rfl) rfl 0 rfl ?_
  refine x_getR (pc := 1) (t := 37) C fl_M_22 rfl rfl (d_M_take 1 rfl) ?_
  refine x_iload_n (pc := 4) C (d_M_take 2 rfl) rfl 1 rfl ?_
  refine x_iload_n (pc := 5) C (d_M_take 3 rfl) rfl 3 rfl ?_
  refine x_if_ne (pc := 6) (tgt := 14) C (d_M_take 4 rfl) (by decide) (fun c1 => ?_) (fun c1 => ?_)
  · rw [if_neg c1] at h
    refine x_aload_n (pc := 14) C (d_M_take 8 rfl) rfl 0 rfl ?_
    refine x_getR (pc := 15) (t := 37) C fl_M_22 rfl rfl (d_M_take 9 rfl) ?_
    refine x_iload_n (pc := 18) C (d_M_take 10 rfl) rfl 1 rfl ?_
    cases c3 : st.2.2.1 32 x0 5 with
    | none => rw [c3] at h; cases h
    | some i2 =>
      rw [c3] at h
      dsimp only at h
      by_cases b4 : x_in x1 8
      · rw [if_pos b4] at h
        refine x_lald (pc := 19) C ar_37 b4 (d_M_take 11 rfl) ?_
        refine x_bipush (pc := 20) (v := 8) C (by decide) (d_M_take 12 rfl) ?_
        refine x_lshl (pc := 22) C (d_M_take 13 rfl) ?_
        refine x_iload_n (pc := 23) C (d_M_take 14 rfl) rfl 2 rfl ?_
        refine x_i2l (pc := 24) C (d_M_take 15 rfl) ?_
        refine x_lor (pc := 25) C (d_M_take 16 rfl) ?_
        by_cases b5 : x_in x1 8
        · rw [if_pos b5] at h
          refine x_last (pc := 26) C ar_37 b5 (d_M_take 17 rfl) ?_
          cases h
          exact x_vret (pc := 27) C hret (Nat.zero_le _) (Nat.zero_le _) (d_M_take 18 rfl)
        · rw [if_neg b5] at h; cases h
      · rw [if_neg b4] at h; cases h
  · rw [if_pos c1] at h
    refine x_iload_n (pc := 9) C (d_M_take 5 rfl) rfl 2 rfl ?_
    refine x_i2l (pc := 10) C (d_M_take 6 rfl) ?_
    refine x_goto (pc := 11) (tgt := 26) C (d_M_take 7 rfl) (by decide) ?_
    cases c7 : st.2.2.1 32 x0 5 with
    | none => rw [c7] at h; cases h
    | some i6 =>
      rw [c7] at h
      dsimp only at h
      by_cases b8 : x_in x1 8
      · rw [if_pos b8] at h
        refine x_last (pc := 26) C ar_37 b8 (d_M_take 17 rfl) ?_
        cases h
        exact x_vret (pc := 27) C hret (Nat.zero_le _) (Nat.zero_le _) (d_M_take 18 rfl)
      · rw [if_neg b8] at h; cases h
def f_M_readPipe_68  : Nat → Nat → Int32 → Int32 → Int32 → XS → Option (Int32 × XS)
  | 0, _, _, _, _, _ => none
  | n + 1, x0, x2, x4, x5, st =>
    match st.2.2.1 32 x0 10 with
    | none => none
    | some i1 =>
      if x_in x2 6 then
        if (st.1 42 i1 x2.toNatClampNeg) ≤ x5 then
          if x_in x2 6 then
            if x_in x2 6 then
              some (x4, xsI st 42 i1 x2.toNatClampNeg ((st.1 42 i1 x2.toNatClampNeg) - x4))
            else none
          else none
        else
          match st.2.2.1 32 x0 11 with
          | none => none
          | some i7 =>
            if x_in (((32 : Int32) * x2) + x5) 192 then
              if x_in ((((32 : Int32) * x2) + x5) - x4) 192 then
                f_M_readPipe_68 n x0 x2 x4 (x5 + 1) (xsI st 43 i7 ((((32 : Int32) * x2) + x5) - x4).toNatClampNeg (st.1 43 i7 (((32 : Int32) * x2) + x5).toNatClampNeg))
              else none
            else none
      else none
set_option maxRecDepth 100000 in
set_option maxHeartbeats 4000000 in
theorem v_M_readPipe_68 {p : Program} {l : Launch} {e : Env} {s : State} {m : MethodId} {args : Array Value} {below : List Frame} {meth : Method} {c : Code} {D : va_G} {cA : Nat → ClassId} {g0 : Nat → Nat → Nat} {n0 : Nat → Nat} {r : Int32} {st2 : XS} (C : x_C p e rm_M_readPipe s m args meth c D cA (x_A g0 n0 s.heap.size) M_M_readPipe.2.1 M_M_readPipe.1 M_M_readPipe.2.2.1) (hret : meth.sig.returnType = M_M_readPipe.2.2.2.1) (hmn : meth.name = M_M_readPipe.2.2.2.2.2) (hex : c.exceptionTable.toList.map (fun h => (h.startPc, h.endPc, h.handlerPc, h.catchType)) = M_M_readPipe.2.2.2.2.1)  : ∀ (n : Nat) (x0 : Nat) (x2 : Int32) (x4 : Int32) (x5 : Int32) (st : XS), f_M_readPipe_68 n x0 x2 x4 x5 st = some (r, st2) → x_V p l e rm_M_readPipe s m args below meth c D cA (x_A g0 n0 s.heap.size) M_M_readPipe.2.2.1 g0 n0 (x_MQ D cA g0 n0 below s 0 0 (.inl (some (xI r))) st2) 68 [(0, xR 32 (some (x0))), (2, xI (x2)), (4, xI (x4)), (5, xI (x5))] [] st 0 0 := by
  intro n
  induction n with
  | zero => intro x0 x2 x4 x5 st h; cases h
  | succ n ih =>
    intro x0 x2 x4 x5 st h
    rw [f_M_readPipe_68.eq_def] at h
    dsimp only at h
    refine x_iload (pc := 68) C (d_M_readPipe 39 rfl) 3 rfl ?_
    refine x_aload_n (pc := 70) C (d_M_readPipe 40 rfl) rfl 0 rfl ?_
    refine x_getR (pc := 71) (t := 42) C fl_M_38 rfl rfl (d_M_readPipe 41 rfl) ?_
    refine x_iload_n (pc := 74) C (d_M_readPipe 42 rfl) rfl 1 rfl ?_
    cases c2 : st.2.2.1 32 x0 10 with
    | none => rw [c2] at h; cases h
    | some i1 =>
      rw [c2] at h
      dsimp only at h
      by_cases b3 : x_in x2 6
      · rw [if_pos b3] at h
        refine x_iald (pc := 75) C ar_42 b3 (d_M_readPipe 43 rfl) ?_
        refine x_icmp_ge (pc := 76) (tgt := 112) C (d_M_readPipe 44 rfl) (by decide) (fun c4 => ?_) (fun c4 => ?_)
        · rw [if_pos c4] at h
          refine x_aload_n (pc := 112) C (d_M_readPipe 65 rfl) rfl 0 rfl ?_
          refine x_getR (pc := 113) (t := 42) C fl_M_38 rfl rfl (d_M_readPipe 66 rfl) ?_
          rw [c2]
          refine x_iload_n (pc := 116) C (d_M_readPipe 67 rfl) rfl 1 rfl ?_
          refine x_dup2 (pc := 117) C rfl rfl (d_M_readPipe 68 rfl) ?_
          by_cases b5 : x_in x2 6
          · rw [if_pos b5] at h
            refine x_iald (pc := 118) C ar_42 b5 (d_M_readPipe 69 rfl) ?_
            refine x_iload (pc := 119) C (d_M_readPipe 70 rfl) 2 rfl ?_
            refine x_isub (pc := 121) C (d_M_readPipe 71 rfl) ?_
            by_cases b6 : x_in x2 6
            · rw [if_pos b6] at h
              refine x_iast (pc := 122) C ar_42 b6 (d_M_readPipe 72 rfl) ?_
              refine x_iload (pc := 123) C (d_M_readPipe 73 rfl) 2 rfl ?_
              cases h
              exact x_iret (pc := 125) C hret rfl (Nat.zero_le _) (Nat.zero_le _) (d_M_readPipe 74 rfl)
            · rw [if_neg b6] at h; cases h
          · rw [if_neg b5] at h; cases h
        · rw [if_neg c4] at h
          refine x_aload_n (pc := 79) C (d_M_readPipe 45 rfl) rfl 0 rfl ?_
          refine x_getR (pc := 80) (t := 43) C fl_M_41 rfl rfl (d_M_readPipe 46 rfl) ?_
          refine x_bipush (pc := 83) (v := 32) C (by decide) (d_M_readPipe 47 rfl) ?_
          refine x_iload_n (pc := 85) C (d_M_readPipe 48 rfl) rfl 1 rfl ?_
          refine x_imul (pc := 86) C (d_M_readPipe 49 rfl) ?_
          refine x_iload (pc := 87) C (d_M_readPipe 50 rfl) 3 rfl ?_
          refine x_iadd (pc := 89) C (d_M_readPipe 51 rfl) ?_
          refine x_iload (pc := 90) C (d_M_readPipe 52 rfl) 2 rfl ?_
          refine x_isub (pc := 92) C (d_M_readPipe 53 rfl) ?_
          refine x_aload_n (pc := 93) C (d_M_readPipe 54 rfl) rfl 0 rfl ?_
          refine x_getR (pc := 94) (t := 43) C fl_M_41 rfl rfl (d_M_readPipe 55 rfl) ?_
          refine x_bipush (pc := 97) (v := 32) C (by decide) (d_M_readPipe 56 rfl) ?_
          refine x_iload_n (pc := 99) C (d_M_readPipe 57 rfl) rfl 1 rfl ?_
          refine x_imul (pc := 100) C (d_M_readPipe 58 rfl) ?_
          refine x_iload (pc := 101) C (d_M_readPipe 59 rfl) 3 rfl ?_
          refine x_iadd (pc := 103) C (d_M_readPipe 60 rfl) ?_
          cases c8 : st.2.2.1 32 x0 11 with
          | none => rw [c8] at h; cases h
          | some i7 =>
            rw [c8] at h
            dsimp only at h
            by_cases b9 : x_in (((32 : Int32) * x2) + x5) 192
            · rw [if_pos b9] at h
              refine x_iald (pc := 104) C ar_43 b9 (d_M_readPipe 61 rfl) ?_
              by_cases b10 : x_in ((((32 : Int32) * x2) + x5) - x4) 192
              · rw [if_pos b10] at h
                refine x_iast (pc := 105) C ar_43 b10 (d_M_readPipe 62 rfl) ?_
                refine x_iinc (pc := 106) (v := x5 + 1) (L2 := [(5, xI (x5 + 1)), (0, xR 32 (some (x0))), (2, xI (x2)), (4, xI (x4))]) C (d_M_readPipe 63 rfl) 3 rfl rfl (by decide) rfl ?_
                refine x_goto (pc := 109) (tgt := 68) C (d_M_readPipe 64 rfl) (by decide) ?_
                exact x_sub [1, 2, 3, 0] rfl (ih _ _ _ _ _ h)
              · rw [if_neg b10] at h; cases h
            · rw [if_neg b9] at h; cases h
      · rw [if_neg b3] at h; cases h
def f_M_readPipe_32  : Nat → Nat → Int32 → Int32 → Int32 → Int32 → XS → Option (Int32 × XS)
  | 0, _, _, _, _, _, _ => none
  | n + 1, x0, x1, x2, x4, x5, st =>
    if x4 ≤ x5 then
      f_M_readPipe_68 100 x0 x2 x4 x4 st
    else
      match st.2.2.1 32 x0 11 with
      | none => none
      | some i12 =>
        if x_in (((32 : Int32) * x2) + x5) 192 then
          match f_M_take x0 x1 (st.1 43 i12 (((32 : Int32) * x2) + x5).toNatClampNeg) x5 st with
          | none => none
          | some (_, st17) =>
            f_M_readPipe_32 n x0 x1 x2 x4 (x5 + 1) st17
        else none
set_option maxRecDepth 100000 in
set_option maxHeartbeats 4000000 in
theorem v_M_readPipe_32 {p : Program} {l : Launch} {e : Env} {s : State} {m : MethodId} {args : Array Value} {below : List Frame} {meth : Method} {c : Code} {D : va_G} {cA : Nat → ClassId} {g0 : Nat → Nat → Nat} {n0 : Nat → Nat} {r : Int32} {st2 : XS} (C : x_C p e rm_M_readPipe s m args meth c D cA (x_A g0 n0 s.heap.size) M_M_readPipe.2.1 M_M_readPipe.1 M_M_readPipe.2.2.1) (hret : meth.sig.returnType = M_M_readPipe.2.2.2.1) (hmn : meth.name = M_M_readPipe.2.2.2.2.2) (hex : c.exceptionTable.toList.map (fun h => (h.startPc, h.endPc, h.handlerPc, h.catchType)) = M_M_readPipe.2.2.2.2.1)  : ∀ (n : Nat) (x0 : Nat) (x1 : Int32) (x2 : Int32) (x4 : Int32) (x5 : Int32) (st : XS), f_M_readPipe_32 n x0 x1 x2 x4 x5 st = some (r, st2) → x_V p l e rm_M_readPipe s m args below meth c D cA (x_A g0 n0 s.heap.size) M_M_readPipe.2.2.1 g0 n0 (x_MQ D cA g0 n0 below s 0 0 (.inl (some (xI r))) st2) 32 [(0, xR 32 (some (x0))), (1, xI (x1)), (2, xI (x2)), (4, xI (x4)), (5, xI (x5))] [] st 0 0 := by
  intro n
  induction n with
  | zero => intro x0 x1 x2 x4 x5 st h; cases h
  | succ n ih =>
    intro x0 x1 x2 x4 x5 st h
    rw [f_M_readPipe_32.eq_def] at h
    dsimp only at h
    refine x_iload (pc := 32) C (d_M_readPipe 20 rfl) 4 rfl ?_
    refine x_iload (pc := 34) C (d_M_readPipe 21 rfl) 3 rfl ?_
    refine x_icmp_ge (pc := 36) (tgt := 64) C (d_M_readPipe 22 rfl) (by decide) (fun c11 => ?_) (fun c11 => ?_)
    · rw [if_pos c11] at h
      refine x_iload (pc := 64) C (d_M_readPipe 37 rfl) 3 rfl ?_
      refine x_istore (pc := 66) (L2 := [(5, xI (x4)), (0, xR 32 (some (x0))), (1, xI (x1)), (2, xI (x2)), (4, xI (x4))]) C (d_M_readPipe 38 rfl) (by decide) rfl ?_
      exact x_sub [1, 3, 4, 0] rfl (v_M_readPipe_68 C hret hmn hex 100 _ _ _ _ _ h)
    · rw [if_neg c11] at h
      refine x_aload_n (pc := 39) C (d_M_readPipe 23 rfl) rfl 0 rfl ?_
      refine x_iload_n (pc := 40) C (d_M_readPipe 24 rfl) rfl 1 rfl ?_
      refine x_aload_n (pc := 41) C (d_M_readPipe 25 rfl) rfl 0 rfl ?_
      refine x_getR (pc := 42) (t := 43) C fl_M_41 rfl rfl (d_M_readPipe 26 rfl) ?_
      refine x_bipush (pc := 45) (v := 32) C (by decide) (d_M_readPipe 27 rfl) ?_
      refine x_iload_n (pc := 47) C (d_M_readPipe 28 rfl) rfl 2 rfl ?_
      refine x_imul (pc := 48) C (d_M_readPipe 29 rfl) ?_
      refine x_iload (pc := 49) C (d_M_readPipe 30 rfl) 4 rfl ?_
      refine x_iadd (pc := 51) C (d_M_readPipe 31 rfl) ?_
      cases c13 : st.2.2.1 32 x0 11 with
      | none => rw [c13] at h; cases h
      | some i12 =>
        rw [c13] at h
        dsimp only at h
        by_cases b14 : x_in (((32 : Int32) * x2) + x5) 192
        · rw [if_pos b14] at h
          refine x_iald (pc := 52) C ar_43 b14 (d_M_readPipe 32 rfl) ?_
          refine x_iload (pc := 53) C (d_M_readPipe 33 rfl) 4 rfl ?_
          cases c15 : f_M_take x0 x1 (st.1 43 i12 (((32 : Int32) * x2) + x5).toNatClampNeg) x5 st with
          | none => rw [c15] at h; cases h
          | some w18 =>
            obtain ⟨v16, st17⟩ := w18
            rw [c15] at h
            dsimp only at h
            refine x_callV (mc := 0) (ms := 0) (pc := 55) (bL := [xI (x1), xI (st.1 43 i12 (((32 : Int32) * x2) + x5).toNatClampNeg), xI (x5)]) (K := []) C cs_M_144 (m_M_take l c15 : x_M l _ _ _ _ (.inl none) _ 0 0) (by decide) rfl (Nat.le_of_ble_eq_true rfl) (d_M_readPipe 34 rfl) ?_
            refine x_iinc (pc := 58) (v := x5 + 1) (L2 := [(5, xI (x5 + 1)), (0, xR 32 (some (x0))), (1, xI (x1)), (2, xI (x2)), (4, xI (x4))]) C (d_M_readPipe 35 rfl) 4 rfl rfl (by decide) rfl ?_
            refine x_goto (pc := 61) (tgt := 32) C (d_M_readPipe 36 rfl) (by decide) ?_
            exact x_sub [1, 2, 3, 4, 0] rfl (ih _ _ _ _ _ _ h)
        · rw [if_neg b14] at h; cases h
def f_M_readPipe (x0 : Nat) (x1 : Int32) (x2 : Int32) (x3 : Int32) (st : XS) : Option (Int32 × XS) :=
  match st.2.2.1 32 x0 10 with
  | none => none
  | some i19 =>
    if x_in x2 6 then
      if x3 ≤ (st.1 42 i19 x2.toNatClampNeg) then
        match st.2.2.1 32 x0 5 with
        | none => none
        | some i23 =>
          if x_in x1 8 then
            f_M_readPipe_32 100 x0 x1 x2 x3 0 (xsJ st 37 i23 x1.toNatClampNeg 0)
          else none
      else
        if x_in x2 6 then
          match st.2.2.1 32 x0 5 with
          | none => none
          | some i27 =>
            if x_in x1 8 then
              f_M_readPipe_32 100 x0 x1 x2 (st.1 42 i19 x2.toNatClampNeg) 0 (xsJ st 37 i27 x1.toNatClampNeg 0)
            else none
        else none
    else none
set_option maxRecDepth 100000 in
set_option maxHeartbeats 4000000 in
theorem m_M_readPipe (l : Launch) {x0 : Nat} {x1 : Int32} {x2 : Int32} {x3 : Int32} {st : XS} {r : Int32} {st2 : XS} (h : f_M_readPipe x0 x1 x2 x3 st = some (r, st2)) : x_M l M_M_readPipe rm_M_readPipe [xR 32 (some (x0)), xI (x1), xI (x2), xI (x3)] st (.inl (some (xI r))) st2 0 0 := by
  refine x_enter (Nat.le_of_ble_eq_true rfl) ?_
  intro p e s m below meth c D cA g args B C
  have hret := B.2.2.2.2.2.2.2.2.1
  have hmn := B.2.2.2.2.2.2.2.1
  have hex := B.2.2.2.2.2.2.2.2.2.1
  unfold f_M_readPipe at h
  refine x_aload_n (pc := 0) C (d_M_readPipe 0 rfl) rfl 0 rfl ?_
  refine x_getR (pc := 1) (t := 42) C fl_M_38 rfl rfl (d_M_readPipe 1 rfl) ?_
  refine x_iload_n (pc := 4) C (d_M_readPipe 2 rfl) rfl 2 rfl ?_
  cases c20 : st.2.2.1 32 x0 10 with
  | none => rw [c20] at h; cases h
  | some i19 =>
    rw [c20] at h
    dsimp only at h
    by_cases b21 : x_in x2 6
    · rw [if_pos b21] at h
      refine x_iald (pc := 5) C ar_42 b21 (d_M_readPipe 3 rfl) ?_
      refine x_iload_n (pc := 6) C (d_M_readPipe 4 rfl) rfl 3 rfl ?_
      refine x_icmp_ge (pc := 7) (tgt := 19) C (d_M_readPipe 5 rfl) (by decide) (fun c22 => ?_) (fun c22 => ?_)
      · rw [if_pos c22] at h
        refine x_iload_n (pc := 19) C (d_M_readPipe 11 rfl) rfl 3 rfl ?_
        refine x_istore (pc := 20) (L2 := [(4, xI (x3)), (0, xR 32 (some (x0))), (1, xI (x1)), (2, xI (x2)), (3, xI (x3))]) C (d_M_readPipe 12 rfl) (by decide) rfl ?_
        refine x_aload_n (pc := 22) C (d_M_readPipe 13 rfl) rfl 1 rfl ?_
        refine x_getR (pc := 23) (t := 37) C fl_M_22 rfl rfl (d_M_readPipe 14 rfl) ?_
        refine x_iload_n (pc := 26) C (d_M_readPipe 15 rfl) rfl 2 rfl ?_
        refine x_lconst (pc := 27) (v := 0) C (by decide) (d_M_readPipe 16 rfl) ?_
        cases c24 : st.2.2.1 32 x0 5 with
        | none => rw [c24] at h; cases h
        | some i23 =>
          rw [c24] at h
          dsimp only at h
          by_cases b25 : x_in x1 8
          · rw [if_pos b25] at h
            refine x_last (pc := 28) C ar_37 b25 (d_M_readPipe 17 rfl) ?_
            refine x_iconst (pc := 29) (v := 0) C (by decide) (d_M_readPipe 18 rfl) ?_
            refine x_istore (pc := 30) (L2 := [(5, xI (0)), (4, xI (x3)), (0, xR 32 (some (x0))), (1, xI (x1)), (2, xI (x2)), (3, xI (x3))]) C (d_M_readPipe 19 rfl) (by decide) rfl ?_
            exact x_sub [2, 3, 4, 1, 0] rfl (v_M_readPipe_32 C hret hmn hex 100 _ _ _ _ _ _ h)
          · rw [if_neg b25] at h; cases h
      · rw [if_neg c22] at h
        refine x_aload_n (pc := 10) C (d_M_readPipe 6 rfl) rfl 0 rfl ?_
        refine x_getR (pc := 11) (t := 42) C fl_M_38 rfl rfl (d_M_readPipe 7 rfl) ?_
        rw [c20]
        refine x_iload_n (pc := 14) C (d_M_readPipe 8 rfl) rfl 2 rfl ?_
        by_cases b26 : x_in x2 6
        · rw [if_pos b26] at h
          refine x_iald (pc := 15) C ar_42 b26 (d_M_readPipe 9 rfl) ?_
          refine x_goto (pc := 16) (tgt := 20) C (d_M_readPipe 10 rfl) (by decide) ?_
          refine x_istore (pc := 20) (L2 := [(4, xI (st.1 42 i19 x2.toNatClampNeg)), (0, xR 32 (some (x0))), (1, xI (x1)), (2, xI (x2)), (3, xI (x3))]) C (d_M_readPipe 12 rfl) (by decide) rfl ?_
          refine x_aload_n (pc := 22) C (d_M_readPipe 13 rfl) rfl 1 rfl ?_
          refine x_getR (pc := 23) (t := 37) C fl_M_22 rfl rfl (d_M_readPipe 14 rfl) ?_
          refine x_iload_n (pc := 26) C (d_M_readPipe 15 rfl) rfl 2 rfl ?_
          refine x_lconst (pc := 27) (v := 0) C (by decide) (d_M_readPipe 16 rfl) ?_
          cases c28 : st.2.2.1 32 x0 5 with
          | none => rw [c28] at h; cases h
          | some i27 =>
            rw [c28] at h
            dsimp only at h
            by_cases b29 : x_in x1 8
            · rw [if_pos b29] at h
              refine x_last (pc := 28) C ar_37 b29 (d_M_readPipe 17 rfl) ?_
              refine x_iconst (pc := 29) (v := 0) C (by decide) (d_M_readPipe 18 rfl) ?_
              refine x_istore (pc := 30) (L2 := [(5, xI (0)), (4, xI (st.1 42 i19 x2.toNatClampNeg)), (0, xR 32 (some (x0))), (1, xI (x1)), (2, xI (x2)), (3, xI (x3))]) C (d_M_readPipe 19 rfl) (by decide) rfl ?_
              exact x_sub [2, 3, 4, 1, 0] rfl (v_M_readPipe_32 C hret hmn hex 100 _ _ _ _ _ _ h)
            · rw [if_neg b29] at h; cases h
        · rw [if_neg b26] at h; cases h
    · rw [if_neg b21] at h; cases h
def f_M_readFile_18  : Nat → Nat → Int32 → Int32 → Int32 → Int32 → Int32 → XS → Option (Int32 × XS)
  | 0, _, _, _, _, _, _, _ => none
  | n + 1, x0, x1, x2, x3, x4, x5, st =>
    if x3 ≤ x5 then
      some (x5, st)
    else
      match st.2.2.1 32 x0 8 with
      | none => none
      | some i2 =>
        if x_in x2 20 then
          match st.2.2.1 32 x0 15 with
          | none => none
          | some i5 =>
            if x_in x4 6 then
              if (st.1 47 i5 x4.toNatClampNeg) ≤ (st.1 40 i2 x2.toNatClampNeg) then
                some (x5, st)
              else
                if x_in x2 20 then
                  match st.2.2.1 32 x0 16 with
                  | none => none
                  | some i10 =>
                    if x_in (((64 : Int32) * x4) + (st.1 40 i2 x2.toNatClampNeg)) 384 then
                      match f_M_take x0 x1 (st.1 48 i10 (((64 : Int32) * x4) + (st.1 40 i2 x2.toNatClampNeg)).toNatClampNeg) x5 st with
                      | none => none
                      | some (_, st15) =>
                        match st15.2.2.1 32 x0 8 with
                        | none => none
                        | some i16 =>
                          if x_in x2 20 then
                            if x_in x2 20 then
                              f_M_readFile_18 n x0 x1 x2 x3 x4 (x5 + 1) (xsI st15 40 i16 x2.toNatClampNeg ((st15.1 40 i16 x2.toNatClampNeg) + (1 : Int32)))
                            else none
                          else none
                    else none
                else none
            else none
        else none
set_option maxRecDepth 100000 in
set_option maxHeartbeats 4000000 in
theorem v_M_readFile_18 {p : Program} {l : Launch} {e : Env} {s : State} {m : MethodId} {args : Array Value} {below : List Frame} {meth : Method} {c : Code} {D : va_G} {cA : Nat → ClassId} {g0 : Nat → Nat → Nat} {n0 : Nat → Nat} {r : Int32} {st2 : XS} (C : x_C p e rm_M_readFile s m args meth c D cA (x_A g0 n0 s.heap.size) M_M_readFile.2.1 M_M_readFile.1 M_M_readFile.2.2.1) (hret : meth.sig.returnType = M_M_readFile.2.2.2.1) (hmn : meth.name = M_M_readFile.2.2.2.2.2) (hex : c.exceptionTable.toList.map (fun h => (h.startPc, h.endPc, h.handlerPc, h.catchType)) = M_M_readFile.2.2.2.2.1)  : ∀ (n : Nat) (x0 : Nat) (x1 : Int32) (x2 : Int32) (x3 : Int32) (x4 : Int32) (x5 : Int32) (st : XS), f_M_readFile_18 n x0 x1 x2 x3 x4 x5 st = some (r, st2) → x_V p l e rm_M_readFile s m args below meth c D cA (x_A g0 n0 s.heap.size) M_M_readFile.2.2.1 g0 n0 (x_MQ D cA g0 n0 below s 0 0 (.inl (some (xI r))) st2) 18 [(0, xR 32 (some (x0))), (1, xI (x1)), (2, xI (x2)), (3, xI (x3)), (4, xI (x4)), (5, xI (x5))] [] st 0 0 := by
  intro n
  induction n with
  | zero => intro x0 x1 x2 x3 x4 x5 st h; cases h
  | succ n ih =>
    intro x0 x1 x2 x3 x4 x5 st h
    rw [f_M_readFile_18.eq_def] at h
    dsimp only at h
    refine x_iload (pc := 18) C (d_M_readFile 12 rfl) 5 rfl ?_
    refine x_iload_n (pc := 20) C (d_M_readFile 13 rfl) rfl 3 rfl ?_
    refine x_icmp_ge (pc := 21) (tgt := 80) C (d_M_readFile 14 rfl) (by decide) (fun c1 => ?_) (fun c1 => ?_)
    · rw [if_pos c1] at h
      refine x_iload (pc := 80) C (d_M_readFile 49 rfl) 5 rfl ?_
      cases h
      exact x_iret (pc := 82) C hret rfl (Nat.zero_le _) (Nat.zero_le _) (d_M_readFile 50 rfl)
    · rw [if_neg c1] at h
      refine x_aload_n (pc := 24) C (d_M_readFile 15 rfl) rfl 0 rfl ?_
      refine x_getR (pc := 25) (t := 40) C fl_M_32 rfl rfl (d_M_readFile 16 rfl) ?_
      refine x_iload_n (pc := 28) C (d_M_readFile 17 rfl) rfl 2 rfl ?_
      cases c3 : st.2.2.1 32 x0 8 with
      | none => rw [c3] at h; cases h
      | some i2 =>
        rw [c3] at h
        dsimp only at h
        by_cases b4 : x_in x2 20
        · rw [if_pos b4] at h
          refine x_iald (pc := 29) C ar_40 b4 (d_M_readFile 18 rfl) ?_
          refine x_aload_n (pc := 30) C (d_M_readFile 19 rfl) rfl 0 rfl ?_
          refine x_getR (pc := 31) (t := 47) C fl_M_54 rfl rfl (d_M_readFile 20 rfl) ?_
          refine x_iload (pc := 34) C (d_M_readFile 21 rfl) 4 rfl ?_
          cases c6 : st.2.2.1 32 x0 15 with
          | none => rw [c6] at h; cases h
          | some i5 =>
            rw [c6] at h
            dsimp only at h
            by_cases b7 : x_in x4 6
            · rw [if_pos b7] at h
              refine x_iald (pc := 36) C ar_47 b7 (d_M_readFile 22 rfl) ?_
              refine x_icmp_ge (pc := 37) (tgt := 80) C (d_M_readFile 23 rfl) (by decide) (fun c8 => ?_) (fun c8 => ?_)
              · rw [if_pos c8] at h
                refine x_iload (pc := 80) C (d_M_readFile 49 rfl) 5 rfl ?_
                cases h
                exact x_iret (pc := 82) C hret rfl (Nat.zero_le _) (Nat.zero_le _) (d_M_readFile 50 rfl)
              · rw [if_neg c8] at h
                refine x_aload_n (pc := 40) C (d_M_readFile 24 rfl) rfl 0 rfl ?_
                refine x_iload_n (pc := 41) C (d_M_readFile 25 rfl) rfl 1 rfl ?_
                refine x_aload_n (pc := 42) C (d_M_readFile 26 rfl) rfl 0 rfl ?_
                refine x_getR (pc := 43) (t := 48) C fl_M_57 rfl rfl (d_M_readFile 27 rfl) ?_
                refine x_bipush (pc := 46) (v := 64) C (by decide) (d_M_readFile 28 rfl) ?_
                refine x_iload (pc := 48) C (d_M_readFile 29 rfl) 4 rfl ?_
                refine x_imul (pc := 50) C (d_M_readFile 30 rfl) ?_
                refine x_aload_n (pc := 51) C (d_M_readFile 31 rfl) rfl 0 rfl ?_
                refine x_getR (pc := 52) (t := 40) C fl_M_32 rfl rfl (d_M_readFile 32 rfl) ?_
                rw [c3]
                refine x_iload_n (pc := 55) C (d_M_readFile 33 rfl) rfl 2 rfl ?_
                by_cases b9 : x_in x2 20
                · rw [if_pos b9] at h
                  refine x_iald (pc := 56) C ar_40 b9 (d_M_readFile 34 rfl) ?_
                  refine x_iadd (pc := 57) C (d_M_readFile 35 rfl) ?_
                  cases c11 : st.2.2.1 32 x0 16 with
                  | none => rw [c11] at h; cases h
                  | some i10 =>
                    rw [c11] at h
                    dsimp only at h
                    by_cases b12 : x_in (((64 : Int32) * x4) + (st.1 40 i2 x2.toNatClampNeg)) 384
                    · rw [if_pos b12] at h
                      refine x_iald (pc := 58) C ar_48 b12 (d_M_readFile 36 rfl) ?_
                      refine x_iload (pc := 59) C (d_M_readFile 37 rfl) 5 rfl ?_
                      cases c13 : f_M_take x0 x1 (st.1 48 i10 (((64 : Int32) * x4) + (st.1 40 i2 x2.toNatClampNeg)).toNatClampNeg) x5 st with
                      | none => rw [c13] at h; cases h
                      | some w20 =>
                        obtain ⟨v14, st15⟩ := w20
                        rw [c13] at h
                        dsimp only at h
                        refine x_callV (mc := 0) (ms := 0) (pc := 61) (bL := [xI (x1), xI (st.1 48 i10 (((64 : Int32) * x4) + (st.1 40 i2 x2.toNatClampNeg)).toNatClampNeg), xI (x5)]) (K := []) C cs_M_144 (m_M_take l c13 : x_M l _ _ _ _ (.inl none) _ 0 0) (by decide) rfl (Nat.le_of_ble_eq_true rfl) (d_M_readFile 38 rfl) ?_
                        refine x_aload_n (pc := 64) C (d_M_readFile 39 rfl) rfl 0 rfl ?_
                        refine x_getR (pc := 65) (t := 40) C fl_M_32 rfl rfl (d_M_readFile 40 rfl) ?_
                        refine x_iload_n (pc := 68) C (d_M_readFile 41 rfl) rfl 2 rfl ?_
                        refine x_dup2 (pc := 69) C rfl rfl (d_M_readFile 42 rfl) ?_
                        cases c17 : st15.2.2.1 32 x0 8 with
                        | none => rw [c17] at h; cases h
                        | some i16 =>
                          rw [c17] at h
                          dsimp only at h
                          by_cases b18 : x_in x2 20
                          · rw [if_pos b18] at h
                            refine x_iald (pc := 70) C ar_40 b18 (d_M_readFile 43 rfl) ?_
                            refine x_iconst (pc := 71) (v := 1) C (by decide) (d_M_readFile 44 rfl) ?_
                            refine x_iadd (pc := 72) C (d_M_readFile 45 rfl) ?_
                            by_cases b19 : x_in x2 20
                            · rw [if_pos b19] at h
                              refine x_iast (pc := 73) C ar_40 b19 (d_M_readFile 46 rfl) ?_
                              refine x_iinc (pc := 74) (v := x5 + 1) (L2 := [(5, xI (x5 + 1)), (0, xR 32 (some (x0))), (1, xI (x1)), (2, xI (x2)), (3, xI (x3)), (4, xI (x4))]) C (d_M_readFile 47 rfl) 5 rfl rfl (by decide) rfl ?_
                              refine x_goto (pc := 77) (tgt := 18) C (d_M_readFile 48 rfl) (by decide) ?_
                              exact x_sub [1, 2, 3, 4, 5, 0] rfl (ih _ _ _ _ _ _ _ h)
                            · rw [if_neg b19] at h; cases h
                          · rw [if_neg b18] at h; cases h
                    · rw [if_neg b12] at h; cases h
                · rw [if_neg b9] at h; cases h
            · rw [if_neg b7] at h; cases h
        · rw [if_neg b4] at h; cases h
def f_M_readFile (x0 : Nat) (x1 : Int32) (x2 : Int32) (x3 : Int32) (st : XS) : Option (Int32 × XS) :=
  match st.2.2.1 32 x0 7 with
  | none => none
  | some i21 =>
    if x_in x2 20 then
      match st.2.2.1 32 x0 5 with
      | none => none
      | some i24 =>
        if x_in x1 8 then
          f_M_readFile_18 100 x0 x1 x2 x3 (st.1 39 i21 x2.toNatClampNeg) 0 (xsJ st 37 i24 x1.toNatClampNeg 0)
        else none
    else none
set_option maxRecDepth 100000 in
set_option maxHeartbeats 4000000 in
theorem m_M_readFile (l : Launch) {x0 : Nat} {x1 : Int32} {x2 : Int32} {x3 : Int32} {st : XS} {r : Int32} {st2 : XS} (h : f_M_readFile x0 x1 x2 x3 st = some (r, st2)) : x_M l M_M_readFile rm_M_readFile [xR 32 (some (x0)), xI (x1), xI (x2), xI (x3)] st (.inl (some (xI r))) st2 0 0 := by
  refine x_enter (Nat.le_of_ble_eq_true rfl) ?_
  intro p e s m below meth c D cA g args B C
  have hret := B.2.2.2.2.2.2.2.2.1
  have hmn := B.2.2.2.2.2.2.2.1
  have hex := B.2.2.2.2.2.2.2.2.2.1
  unfold f_M_readFile at h
  refine x_aload_n (pc := 0) C (d_M_readFile 0 rfl) rfl 0 rfl ?_
  refine x_getR (pc := 1) (t := 39) C fl_M_29 rfl rfl (d_M_readFile 1 rfl) ?_
  refine x_iload_n (pc := 4) C (d_M_readFile 2 rfl) rfl 2 rfl ?_
  cases c22 : st.2.2.1 32 x0 7 with
  | none => rw [c22] at h; cases h
  | some i21 =>
    rw [c22] at h
    dsimp only at h
    by_cases b23 : x_in x2 20
    · rw [if_pos b23] at h
      refine x_iald (pc := 5) C ar_39 b23 (d_M_readFile 3 rfl) ?_
      refine x_istore (pc := 6) (L2 := [(4, xI (st.1 39 i21 x2.toNatClampNeg)), (0, xR 32 (some (x0))), (1, xI (x1)), (2, xI (x2)), (3, xI (x3))]) C (d_M_readFile 4 rfl) (by decide) rfl ?_
      refine x_iconst (pc := 8) (v := 0) C (by decide) (d_M_readFile 5 rfl) ?_
      refine x_istore (pc := 9) (L2 := [(5, xI (0)), (4, xI (st.1 39 i21 x2.toNatClampNeg)), (0, xR 32 (some (x0))), (1, xI (x1)), (2, xI (x2)), (3, xI (x3))]) C (d_M_readFile 6 rfl) (by decide) rfl ?_
      refine x_aload_n (pc := 11) C (d_M_readFile 7 rfl) rfl 2 rfl ?_
      refine x_getR (pc := 12) (t := 37) C fl_M_22 rfl rfl (d_M_readFile 8 rfl) ?_
      refine x_iload_n (pc := 15) C (d_M_readFile 9 rfl) rfl 3 rfl ?_
      refine x_lconst (pc := 16) (v := 0) C (by decide) (d_M_readFile 10 rfl) ?_
      cases c25 : st.2.2.1 32 x0 5 with
      | none => rw [c25] at h; cases h
      | some i24 =>
        rw [c25] at h
        dsimp only at h
        by_cases b26 : x_in x1 8
        · rw [if_pos b26] at h
          refine x_last (pc := 17) C ar_37 b26 (d_M_readFile 11 rfl) ?_
          exact x_sub [2, 3, 4, 5, 1, 0] rfl (v_M_readFile_18 C hret hmn hex 100 _ _ _ _ _ _ _ h)
        · rw [if_neg b26] at h; cases h
    · rw [if_neg b23] at h; cases h
def f_M_readConsole_71  : Nat → Nat → Int32 → Int32 → Int32 → XS → Option (Int32 × XS)
  | 0, _, _, _, _, _ => none
  | n + 1, x0, x3, x4, x5, st =>
    if (st.1 32 x0 17) ≤ x5 then
      some (x3, xsI st 32 x0 17 ((st.1 32 x0 17) - x4))
    else
      match st.2.2.1 32 x0 18 with
      | none => none
      | some i2 =>
        if x_in x5 40 then
          if x_in (x5 - x4) 40 then
            f_M_readConsole_71 n x0 x3 x4 (x5 + 1) (xsI st 49 i2 (x5 - x4).toNatClampNeg (st.1 49 i2 x5.toNatClampNeg))
          else none
        else none
set_option maxRecDepth 100000 in
set_option maxHeartbeats 4000000 in
theorem v_M_readConsole_71 {p : Program} {l : Launch} {e : Env} {s : State} {m : MethodId} {args : Array Value} {below : List Frame} {meth : Method} {c : Code} {D : va_G} {cA : Nat → ClassId} {g0 : Nat → Nat → Nat} {n0 : Nat → Nat} {r : Int32} {st2 : XS} (C : x_C p e rm_M_readConsole s m args meth c D cA (x_A g0 n0 s.heap.size) M_M_readConsole.2.1 M_M_readConsole.1 M_M_readConsole.2.2.1) (hret : meth.sig.returnType = M_M_readConsole.2.2.2.1) (hmn : meth.name = M_M_readConsole.2.2.2.2.2) (hex : c.exceptionTable.toList.map (fun h => (h.startPc, h.endPc, h.handlerPc, h.catchType)) = M_M_readConsole.2.2.2.2.1)  : ∀ (n : Nat) (x0 : Nat) (x3 : Int32) (x4 : Int32) (x5 : Int32) (st : XS), f_M_readConsole_71 n x0 x3 x4 x5 st = some (r, st2) → x_V p l e rm_M_readConsole s m args below meth c D cA (x_A g0 n0 s.heap.size) M_M_readConsole.2.2.1 g0 n0 (x_MQ D cA g0 n0 below s 0 0 (.inl (some (xI r))) st2) 71 [(0, xR 32 (some (x0))), (3, xI (x3)), (4, xI (x4)), (5, xI (x5))] [] st 0 0 := by
  intro n
  induction n with
  | zero => intro x0 x3 x4 x5 st h; cases h
  | succ n ih =>
    intro x0 x3 x4 x5 st h
    rw [f_M_readConsole_71.eq_def] at h
    dsimp only at h
    refine x_iload (pc := 71) C (d_M_readConsole 38 rfl) 3 rfl ?_
    refine x_aload_n (pc := 73) C (d_M_readConsole 39 rfl) rfl 0 rfl ?_
    refine x_getI (pc := 74) C fl_M_120 rfl (d_M_readConsole 40 rfl) ?_
    refine x_icmp_ge (pc := 77) (tgt := 103) C (d_M_readConsole 41 rfl) (by decide) (fun c1 => ?_) (fun c1 => ?_)
    · rw [if_pos c1] at h
      refine x_aload_n (pc := 103) C (d_M_readConsole 54 rfl) rfl 0 rfl ?_
      refine x_dup (pc := 104) C rfl (d_M_readConsole 55 rfl) ?_
      refine x_getI (pc := 105) C fl_M_120 rfl (d_M_readConsole 56 rfl) ?_
      refine x_iload (pc := 108) C (d_M_readConsole 57 rfl) 2 rfl ?_
      refine x_isub (pc := 110) C (d_M_readConsole 58 rfl) ?_
      refine x_putI (pc := 111) C fl_M_120 (pf_M_120 _) rfl ty_32_17 (d_M_readConsole 59 rfl) ?_
      refine x_iload_n (pc := 114) C (d_M_readConsole 60 rfl) rfl 1 rfl ?_
      cases h
      exact x_iret (pc := 115) C hret rfl (Nat.zero_le _) (Nat.zero_le _) (d_M_readConsole 61 rfl)
    · rw [if_neg c1] at h
      refine x_aload_n (pc := 80) C (d_M_readConsole 42 rfl) rfl 0 rfl ?_
      refine x_getR (pc := 81) (t := 49) C fl_M_60 rfl rfl (d_M_readConsole 43 rfl) ?_
      refine x_iload (pc := 84) C (d_M_readConsole 44 rfl) 3 rfl ?_
      refine x_iload (pc := 86) C (d_M_readConsole 45 rfl) 2 rfl ?_
      refine x_isub (pc := 88) C (d_M_readConsole 46 rfl) ?_
      refine x_aload_n (pc := 89) C (d_M_readConsole 47 rfl) rfl 0 rfl ?_
      refine x_getR (pc := 90) (t := 49) C fl_M_60 rfl rfl (d_M_readConsole 48 rfl) ?_
      refine x_iload (pc := 93) C (d_M_readConsole 49 rfl) 3 rfl ?_
      cases c3 : st.2.2.1 32 x0 18 with
      | none => rw [c3] at h; cases h
      | some i2 =>
        rw [c3] at h
        dsimp only at h
        by_cases b4 : x_in x5 40
        · rw [if_pos b4] at h
          refine x_iald (pc := 95) C ar_49 b4 (d_M_readConsole 50 rfl) ?_
          by_cases b5 : x_in (x5 - x4) 40
          · rw [if_pos b5] at h
            refine x_iast (pc := 96) C ar_49 b5 (d_M_readConsole 51 rfl) ?_
            refine x_iinc (pc := 97) (v := x5 + 1) (L2 := [(5, xI (x5 + 1)), (0, xR 32 (some (x0))), (3, xI (x3)), (4, xI (x4))]) C (d_M_readConsole 52 rfl) 3 rfl rfl (by decide) rfl ?_
            refine x_goto (pc := 100) (tgt := 71) C (d_M_readConsole 53 rfl) (by decide) ?_
            exact x_sub [1, 2, 3, 0] rfl (ih _ _ _ _ _ h)
          · rw [if_neg b5] at h; cases h
        · rw [if_neg b4] at h; cases h
def f_M_readConsole_12  : Nat → Nat → Int32 → Int32 → Int32 → Int32 → XS → Option (Int32 × XS)
  | 0, _, _, _, _, _, _ => none
  | n + 1, x0, x1, x2, x3, x4, st =>
    if x4 = x3 then
      if x2 ≤ x3 then
        f_M_readConsole_71 100 x0 x3 x4 x4 st
      else
        if (st.1 32 x0 17) ≤ x4 then
          f_M_readConsole_71 100 x0 x3 x4 x4 st
        else
          match st.2.2.1 32 x0 18 with
          | none => none
          | some i9 =>
            if x_in x4 40 then
              if (st.1 49 i9 x4.toNatClampNeg) = 4 then
                f_M_readConsole_12 n x0 x1 x2 x3 (x4 + 1) st
              else
                match f_M_take x0 x1 (st.1 49 i9 x4.toNatClampNeg) x3 st with
                | none => none
                | some (_, st15) =>
                  f_M_readConsole_12 n x0 x1 x2 (x3 + 1) (x4 + 1) st15
            else none
    else
      f_M_readConsole_71 100 x0 x3 x4 x4 st
set_option maxRecDepth 100000 in
set_option maxHeartbeats 4000000 in
theorem v_M_readConsole_12 {p : Program} {l : Launch} {e : Env} {s : State} {m : MethodId} {args : Array Value} {below : List Frame} {meth : Method} {c : Code} {D : va_G} {cA : Nat → ClassId} {g0 : Nat → Nat → Nat} {n0 : Nat → Nat} {r : Int32} {st2 : XS} (C : x_C p e rm_M_readConsole s m args meth c D cA (x_A g0 n0 s.heap.size) M_M_readConsole.2.1 M_M_readConsole.1 M_M_readConsole.2.2.1) (hret : meth.sig.returnType = M_M_readConsole.2.2.2.1) (hmn : meth.name = M_M_readConsole.2.2.2.2.2) (hex : c.exceptionTable.toList.map (fun h => (h.startPc, h.endPc, h.handlerPc, h.catchType)) = M_M_readConsole.2.2.2.2.1)  : ∀ (n : Nat) (x0 : Nat) (x1 : Int32) (x2 : Int32) (x3 : Int32) (x4 : Int32) (st : XS), f_M_readConsole_12 n x0 x1 x2 x3 x4 st = some (r, st2) → x_V p l e rm_M_readConsole s m args below meth c D cA (x_A g0 n0 s.heap.size) M_M_readConsole.2.2.1 g0 n0 (x_MQ D cA g0 n0 below s 0 0 (.inl (some (xI r))) st2) 12 [(0, xR 32 (some (x0))), (1, xI (x1)), (2, xI (x2)), (3, xI (x3)), (4, xI (x4))] [] st 0 0 := by
  intro n
  induction n with
  | zero => intro x0 x1 x2 x3 x4 st h; cases h
  | succ n ih =>
    intro x0 x1 x2 x3 x4 st h
    rw [f_M_readConsole_12.eq_def] at h
    dsimp only at h
    refine x_iload (pc := 12) C (d_M_readConsole 9 rfl) 4 rfl ?_
    refine x_iload_n (pc := 14) C (d_M_readConsole 10 rfl) rfl 3 rfl ?_
    refine x_icmp_ne (pc := 15) (tgt := 67) C (d_M_readConsole 11 rfl) (by decide) (fun c6 => ?_) (fun c6 => ?_)
    · rw [if_neg c6] at h
      refine x_iload (pc := 67) C (d_M_readConsole 36 rfl) 4 rfl ?_
      refine x_istore (pc := 69) (L2 := [(5, xI (x4)), (0, xR 32 (some (x0))), (1, xI (x1)), (2, xI (x2)), (3, xI (x3)), (4, xI (x4))]) C (d_M_readConsole 37 rfl) (by decide) rfl ?_
      exact x_sub [1, 4, 5, 0] rfl (v_M_readConsole_71 C hret hmn hex 100 _ _ _ _ _ h)
    · rw [if_pos c6] at h
      refine x_iload_n (pc := 18) C (d_M_readConsole 12 rfl) rfl 3 rfl ?_
      refine x_iload_n (pc := 19) C (d_M_readConsole 13 rfl) rfl 2 rfl ?_
      refine x_icmp_ge (pc := 20) (tgt := 67) C (d_M_readConsole 14 rfl) (by decide) (fun c7 => ?_) (fun c7 => ?_)
      · rw [if_pos c7] at h
        refine x_iload (pc := 67) C (d_M_readConsole 36 rfl) 4 rfl ?_
        refine x_istore (pc := 69) (L2 := [(5, xI (x4)), (0, xR 32 (some (x0))), (1, xI (x1)), (2, xI (x2)), (3, xI (x3)), (4, xI (x4))]) C (d_M_readConsole 37 rfl) (by decide) rfl ?_
        exact x_sub [1, 4, 5, 0] rfl (v_M_readConsole_71 C hret hmn hex 100 _ _ _ _ _ h)
      · rw [if_neg c7] at h
        refine x_iload (pc := 23) C (d_M_readConsole 15 rfl) 4 rfl ?_
        refine x_aload_n (pc := 25) C (d_M_readConsole 16 rfl) rfl 0 rfl ?_
        refine x_getI (pc := 26) C fl_M_120 rfl (d_M_readConsole 17 rfl) ?_
        refine x_icmp_ge (pc := 29) (tgt := 67) C (d_M_readConsole 18 rfl) (by decide) (fun c8 => ?_) (fun c8 => ?_)
        · rw [if_pos c8] at h
          refine x_iload (pc := 67) C (d_M_readConsole 36 rfl) 4 rfl ?_
          refine x_istore (pc := 69) (L2 := [(5, xI (x4)), (0, xR 32 (some (x0))), (1, xI (x1)), (2, xI (x2)), (3, xI (x3)), (4, xI (x4))]) C (d_M_readConsole 37 rfl) (by decide) rfl ?_
          exact x_sub [1, 4, 5, 0] rfl (v_M_readConsole_71 C hret hmn hex 100 _ _ _ _ _ h)
        · rw [if_neg c8] at h
          refine x_aload_n (pc := 32) C (d_M_readConsole 19 rfl) rfl 0 rfl ?_
          refine x_getR (pc := 33) (t := 49) C fl_M_60 rfl rfl (d_M_readConsole 20 rfl) ?_
          refine x_iload (pc := 36) C (d_M_readConsole 21 rfl) 4 rfl ?_
          cases c10 : st.2.2.1 32 x0 18 with
          | none => rw [c10] at h; cases h
          | some i9 =>
            rw [c10] at h
            dsimp only at h
            by_cases b11 : x_in x4 40
            · rw [if_pos b11] at h
              refine x_iald (pc := 38) C ar_49 b11 (d_M_readConsole 22 rfl) ?_
              refine x_istore (pc := 39) (L2 := [(5, xI (st.1 49 i9 x4.toNatClampNeg)), (0, xR 32 (some (x0))), (1, xI (x1)), (2, xI (x2)), (3, xI (x3)), (4, xI (x4))]) C (d_M_readConsole 23 rfl) (by decide) rfl ?_
              refine x_iinc (pc := 41) (v := x4 + 1) (L2 := [(4, xI (x4 + 1)), (5, xI (st.1 49 i9 x4.toNatClampNeg)), (0, xR 32 (some (x0))), (1, xI (x1)), (2, xI (x2)), (3, xI (x3))]) C (d_M_readConsole 24 rfl) 5 rfl rfl (by decide) rfl ?_
              refine x_iload (pc := 44) C (d_M_readConsole 25 rfl) 1 rfl ?_
              refine x_iconst (pc := 46) (v := 4) C (by decide) (d_M_readConsole 26 rfl) ?_
              refine x_icmp_ne (pc := 47) (tgt := 53) C (d_M_readConsole 27 rfl) (by decide) (fun c12 => ?_) (fun c12 => ?_)
              · rw [if_neg c12] at h
                refine x_aload_n (pc := 53) C (d_M_readConsole 29 rfl) rfl 2 rfl ?_
                refine x_iload_n (pc := 54) C (d_M_readConsole 30 rfl) rfl 3 rfl ?_
                refine x_iload (pc := 55) C (d_M_readConsole 31 rfl) 1 rfl ?_
                refine x_iload_n (pc := 57) C (d_M_readConsole 32 rfl) rfl 5 rfl ?_
                cases c13 : f_M_take x0 x1 (st.1 49 i9 x4.toNatClampNeg) x3 st with
                | none => rw [c13] at h; cases h
                | some w16 =>
                  obtain ⟨v14, st15⟩ := w16
                  rw [c13] at h
                  dsimp only at h
                  refine x_callV (mc := 0) (ms := 0) (pc := 58) (bL := [xI (x1), xI (st.1 49 i9 x4.toNatClampNeg), xI (x3)]) (K := []) C cs_M_144 (m_M_take l c13 : x_M l _ _ _ _ (.inl none) _ 0 0) (by decide) rfl (Nat.le_of_ble_eq_true rfl) (d_M_readConsole 33 rfl) ?_
                  refine x_iinc (pc := 61) (v := x3 + 1) (L2 := [(3, xI (x3 + 1)), (4, xI (x4 + 1)), (5, xI (st.1 49 i9 x4.toNatClampNeg)), (0, xR 32 (some (x0))), (1, xI (x1)), (2, xI (x2))]) C (d_M_readConsole 34 rfl) 5 rfl rfl (by decide) rfl ?_
                  refine x_goto (pc := 64) (tgt := 12) C (d_M_readConsole 35 rfl) (by decide) ?_
                  exact x_sub [3, 4, 5, 0, 1] rfl (ih _ _ _ _ _ _ h)
              · rw [if_pos c12] at h
                refine x_goto (pc := 50) (tgt := 12) C (d_M_readConsole 28 rfl) (by decide) ?_
                exact x_sub [2, 3, 4, 5, 0] rfl (ih _ _ _ _ _ _ h)
            · rw [if_neg b11] at h; cases h
def f_M_readConsole (x0 : Nat) (x1 : Int32) (x2 : Int32) (st : XS) : Option (Int32 × XS) :=
  match st.2.2.1 32 x0 5 with
  | none => none
  | some i17 =>
    if x_in x1 8 then
      f_M_readConsole_12 100 x0 x1 x2 0 0 (xsJ st 37 i17 x1.toNatClampNeg 0)
    else none
set_option maxRecDepth 100000 in
set_option maxHeartbeats 4000000 in
theorem m_M_readConsole (l : Launch) {x0 : Nat} {x1 : Int32} {x2 : Int32} {st : XS} {r : Int32} {st2 : XS} (h : f_M_readConsole x0 x1 x2 st = some (r, st2)) : x_M l M_M_readConsole rm_M_readConsole [xR 32 (some (x0)), xI (x1), xI (x2)] st (.inl (some (xI r))) st2 0 0 := by
  refine x_enter (Nat.le_of_ble_eq_true rfl) ?_
  intro p e s m below meth c D cA g args B C
  have hret := B.2.2.2.2.2.2.2.2.1
  have hmn := B.2.2.2.2.2.2.2.1
  have hex := B.2.2.2.2.2.2.2.2.2.1
  unfold f_M_readConsole at h
  refine x_iconst (pc := 0) (v := 0) C (by decide) (d_M_readConsole 0 rfl) ?_
  refine x_istore_n (pc := 1) (L2 := [(3, xI (0)), (0, xR 32 (some (x0))), (1, xI (x1)), (2, xI (x2))]) C (d_M_readConsole 1 rfl) rfl (by decide) rfl ?_
  refine x_iconst (pc := 2) (v := 0) C (by decide) (d_M_readConsole 2 rfl) ?_
  refine x_istore (pc := 3) (L2 := [(4, xI (0)), (3, xI (0)), (0, xR 32 (some (x0))), (1, xI (x1)), (2, xI (x2))]) C (d_M_readConsole 3 rfl) (by decide) rfl ?_
  refine x_aload_n (pc := 5) C (d_M_readConsole 4 rfl) rfl 2 rfl ?_
  refine x_getR (pc := 6) (t := 37) C fl_M_22 rfl rfl (d_M_readConsole 5 rfl) ?_
  refine x_iload_n (pc := 9) C (d_M_readConsole 6 rfl) rfl 3 rfl ?_
  refine x_lconst (pc := 10) (v := 0) C (by decide) (d_M_readConsole 7 rfl) ?_
  cases c18 : st.2.2.1 32 x0 5 with
  | none => rw [c18] at h; cases h
  | some i17 =>
    rw [c18] at h
    dsimp only at h
    by_cases b19 : x_in x1 8
    · rw [if_pos b19] at h
      refine x_last (pc := 11) C ar_37 b19 (d_M_readConsole 8 rfl) ?_
      exact x_sub [2, 3, 4, 1, 0] rfl (v_M_readConsole_12 C hret hmn hex 100 _ _ _ _ _ _ h)
    · rw [if_neg b19] at h; cases h
def f_M_read_29  (x0 : Nat) (x1 : Int32) (x2 : Int32) (x3 : Int32) (s0 : Int32) (s1 : Int32) (s2 : Option Nat) (st : XS) : Option (Int32 × XS) :=
  match s2 with
  | none => none
  | some i1 =>
    match f_M_fails i1 s1 s0 st with
    | none => none
    | some (v4, st5) =>
      if v4 = 0 then
        match f_M_openingOf x0 x1 x2 st5 with
        | none => none
        | some v8 =>
          if v8 < 0 then
            some ((-1), st5)
          else
            match st5.2.2.1 32 x0 9 with
            | none => none
            | some i10 =>
              if x_in v8 20 then
                if ((st5.1 41 i10 v8.toNatClampNeg) &&& (1 : Int32)) = 0 then
                  some ((-1), st5)
                else
                  match f_M_waits x0 v8 1 x3 st5 with
                  | none => none
                  | some v15 =>
                    if v15 = 0 then
                      match st5.2.2.1 32 x0 6 with
                      | none => none
                      | some i17 =>
                        if x_in v8 20 then
                          if (st5.1 38 i17 v8.toNatClampNeg) = 1 then
                            match st5.2.2.1 32 x0 7 with
                            | none => none
                            | some i39 =>
                              if x_in v8 20 then
                                match f_M_readPipe x0 x1 (st5.1 39 i39 v8.toNatClampNeg) x3 st5 with
                                | none => none
                                | some (v43, st44) =>
                                  match f_M_wake x0 st44 with
                                  | none => none
                                  | some (v46, st47) =>
                                    some (v43, st47)
                              else none
                          else
                            if x_in v8 20 then
                              if (st5.1 38 i17 v8.toNatClampNeg) = 3 then
                                match f_M_readFile x0 x1 v8 x3 st5 with
                                | none => none
                                | some (v32, st33) =>
                                  match f_M_wake x0 st33 with
                                  | none => none
                                  | some (v35, st36) =>
                                    some (v32, st36)
                              else
                                match f_M_readConsole x0 x1 x3 st5 with
                                | none => none
                                | some (v24, st25) =>
                                  match f_M_wake x0 st25 with
                                  | none => none
                                  | some (v27, st28) =>
                                    some (v24, st28)
                            else none
                        else none
                    else
                      match f_M_waitFor x0 x1 x2 x3 2 st5 with
                      | none => none
                      | some (v51, st52) =>
                        some (v51, st52)
              else none
      else
        some (0, st5)
set_option maxRecDepth 100000 in
set_option maxHeartbeats 4000000 in
theorem v_M_read_29 {p : Program} {l : Launch} {e : Env} {s : State} {m : MethodId} {args : Array Value} {below : List Frame} {meth : Method} {c : Code} {D : va_G} {cA : Nat → ClassId} {g0 : Nat → Nat → Nat} {n0 : Nat → Nat} {r : Int32} {st2 : XS} (C : x_C p e rm_M_read s m args meth c D cA (x_A g0 n0 s.heap.size) M_M_read.2.1 M_M_read.1 M_M_read.2.2.1) (hret : meth.sig.returnType = M_M_read.2.2.2.1) (hmn : meth.name = M_M_read.2.2.2.2.2) (hex : c.exceptionTable.toList.map (fun h => (h.startPc, h.endPc, h.handlerPc, h.catchType)) = M_M_read.2.2.2.2.1)  (x0 : Nat) (x1 : Int32) (x2 : Int32) (x3 : Int32) (s0 : Int32) (s1 : Int32) (s2 : Option Nat) (st : XS) (h : f_M_read_29 x0 x1 x2 x3 s0 s1 s2 st = some (r, st2)) : x_V p l e rm_M_read s m args below meth c D cA (x_A g0 n0 s.heap.size) M_M_read.2.2.1 g0 n0 (x_MQ D cA g0 n0 below s 0 0 (.inl (some (xI r))) st2) 29 [(0, xR 32 (some (x0))), (1, xI (x1)), (2, xI (x2)), (3, xI (x3))] [xI (s0), xI (s1), xR 32 (s2)] st 0 0 := by
  unfold f_M_read_29 at h
  cases c2 : s2 with
  | none => rw [c2] at h; cases h
  | some i1 =>
    rw [c2] at h
    dsimp only at h
    cases c3 : f_M_fails i1 s1 s0 st with
    | none => rw [c3] at h; cases h
    | some w56 =>
      obtain ⟨v4, st5⟩ := w56
      rw [c3] at h
      dsimp only at h
      refine x_callV (mc := 0) (ms := 0) (pc := 29) (bL := [xI (s1), xI (s0)]) (K := []) C cs_M_107 (m_M_fails l c3 : x_M l _ _ _ _ (.inl (some (xI v4))) _ 0 0) (by decide) rfl (Nat.le_of_ble_eq_true rfl) (d_M_read 16 rfl) ?_
      refine x_if_eq (pc := 32) (tgt := 37) C (d_M_read 17 rfl) (by decide) (fun c6 => ?_) (fun c6 => ?_)
      · rw [if_pos c6] at h
        refine x_aload_n (pc := 37) C (d_M_read 20 rfl) rfl 0 rfl ?_
        refine x_iload_n (pc := 38) C (d_M_read 21 rfl) rfl 1 rfl ?_
        refine x_iload_n (pc := 39) C (d_M_read 22 rfl) rfl 2 rfl ?_
        cases c7 : f_M_openingOf x0 x1 x2 st5 with
        | none => rw [c7] at h; cases h
        | some v8 =>
          rw [c7] at h
          dsimp only at h
          refine x_callV (mc := 0) (ms := 0) (pc := 40) (bL := [xI (x1), xI (x2)]) (K := []) C cs_M_133 (m_M_openingOf l c7 : x_M l _ _ _ _ (.inl (some (xI v8))) _ 0 0) (by decide) rfl (Nat.le_of_ble_eq_true rfl) (d_M_read 23 rfl) ?_
          refine x_istore (pc := 43) (L2 := [(4, xI (v8)), (0, xR 32 (some (x0))), (1, xI (x1)), (2, xI (x2)), (3, xI (x3))]) C (d_M_read 24 rfl) (by decide) rfl ?_
          refine x_iload (pc := 45) C (d_M_read 25 rfl) 0 rfl ?_
          refine x_if_lt (pc := 47) (tgt := 62) C (d_M_read 26 rfl) (by decide) (fun c9 => ?_) (fun c9 => ?_)
          · rw [if_pos c9] at h
            refine x_iconst (pc := 62) (v := (-1)) C (by decide) (d_M_read 34 rfl) ?_
            cases h
            exact x_iret (pc := 63) C hret rfl (Nat.zero_le _) (Nat.zero_le _) (d_M_read 35 rfl)
          · rw [if_neg c9] at h
            refine x_aload_n (pc := 50) C (d_M_read 27 rfl) rfl 1 rfl ?_
            refine x_getR (pc := 51) (t := 41) C fl_M_35 rfl rfl (d_M_read 28 rfl) ?_
            refine x_iload (pc := 54) C (d_M_read 29 rfl) 0 rfl ?_
            cases c11 : st5.2.2.1 32 x0 9 with
            | none => rw [c11] at h; cases h
            | some i10 =>
              rw [c11] at h
              dsimp only at h
              by_cases b12 : x_in v8 20
              · rw [if_pos b12] at h
                refine x_iald (pc := 56) C ar_41 b12 (d_M_read 30 rfl) ?_
                refine x_iconst (pc := 57) (v := 1) C (by decide) (d_M_read 31 rfl) ?_
                refine x_iand (pc := 58) C (d_M_read 32 rfl) ?_
                refine x_if_ne (pc := 59) (tgt := 64) C (d_M_read 33 rfl) (by decide) (fun c13 => ?_) (fun c13 => ?_)
                · rw [if_neg c13] at h
                  refine x_aload_n (pc := 64) C (d_M_read 36 rfl) rfl 1 rfl ?_
                  refine x_iload (pc := 65) C (d_M_read 37 rfl) 0 rfl ?_
                  refine x_iconst (pc := 67) (v := 1) C (by decide) (d_M_read 38 rfl) ?_
                  refine x_iload_n (pc := 68) C (d_M_read 39 rfl) rfl 4 rfl ?_
                  cases c14 : f_M_waits x0 v8 1 x3 st5 with
                  | none => rw [c14] at h; cases h
                  | some v15 =>
                    rw [c14] at h
                    dsimp only at h
                    refine x_callV (mc := 0) (ms := 0) (pc := 69) (bL := [xI (v8), xI (1), xI (x3)]) (K := []) C cs_M_123 (m_M_waits l c14 : x_M l _ _ _ _ (.inl (some (xI v15))) _ 0 0) (by decide) rfl (Nat.le_of_ble_eq_true rfl) (d_M_read 40 rfl) ?_
                    refine x_if_eq (pc := 72) (tgt := 84) C (d_M_read 41 rfl) (by decide) (fun c16 => ?_) (fun c16 => ?_)
                    · rw [if_pos c16] at h
                      refine x_aload_n (pc := 84) C (d_M_read 49 rfl) rfl 1 rfl ?_
                      refine x_getR (pc := 85) (t := 38) C fl_M_26 rfl rfl (d_M_read 50 rfl) ?_
                      refine x_iload (pc := 88) C (d_M_read 51 rfl) 0 rfl ?_
                      cases c18 : st5.2.2.1 32 x0 6 with
                      | none => rw [c18] at h; cases h
                      | some i17 =>
                        rw [c18] at h
                        dsimp only at h
                        by_cases b19 : x_in v8 20
                        · rw [if_pos b19] at h
                          refine x_iald (pc := 90) C ar_38 b19 (d_M_read 52 rfl) ?_
                          refine x_iconst (pc := 91) (v := 1) C (by decide) (d_M_read 53 rfl) ?_
                          refine x_icmp_ne (pc := 92) (tgt := 111) C (d_M_read 54 rfl) (by decide) (fun c20 => ?_) (fun c20 => ?_)
                          · rw [if_neg c20] at h
                            refine x_aload_n (pc := 111) C (d_M_read 64 rfl) rfl 1 rfl ?_
                            refine x_getR (pc := 112) (t := 38) C fl_M_26 rfl rfl (d_M_read 65 rfl) ?_
                            rw [c18]
                            refine x_iload (pc := 115) C (d_M_read 66 rfl) 0 rfl ?_
                            by_cases b21 : x_in v8 20
                            · rw [if_pos b21] at h
                              refine x_iald (pc := 117) C ar_38 b21 (d_M_read 67 rfl) ?_
                              refine x_iconst (pc := 118) (v := 3) C (by decide) (d_M_read 68 rfl) ?_
                              refine x_icmp_ne (pc := 119) (tgt := 133) C (d_M_read 69 rfl) (by decide) (fun c22 => ?_) (fun c22 => ?_)
                              · rw [if_neg c22] at h
                                refine x_aload_n (pc := 133) C (d_M_read 76 rfl) rfl 1 rfl ?_
                                refine x_iload_n (pc := 134) C (d_M_read 77 rfl) rfl 2 rfl ?_
                                refine x_iload_n (pc := 135) C (d_M_read 78 rfl) rfl 4 rfl ?_
                                cases c23 : f_M_readConsole x0 x1 x3 st5 with
                                | none => rw [c23] at h; cases h
                                | some w30 =>
                                  obtain ⟨v24, st25⟩ := w30
                                  rw [c23] at h
                                  dsimp only at h
                                  refine x_callV (mc := 0) (ms := 0) (pc := 136) (bL := [xI (x1), xI (x3)]) (K := []) C cs_M_158 (m_M_readConsole l c23 : x_M l _ _ _ _ (.inl (some (xI v24))) _ 0 0) (by decide) rfl (Nat.le_of_ble_eq_true rfl) (d_M_read 79 rfl) ?_
                                  refine x_istore (pc := 139) (L2 := [(5, xI (v24)), (4, xI (v8)), (0, xR 32 (some (x0))), (1, xI (x1)), (2, xI (x2)), (3, xI (x3))]) C (d_M_read 80 rfl) (by decide) rfl ?_
                                  refine x_aload_n (pc := 141) C (d_M_read 81 rfl) rfl 2 rfl ?_
                                  cases c26 : f_M_wake x0 st25 with
                                  | none => rw [c26] at h; cases h
                                  | some w29 =>
                                    obtain ⟨v27, st28⟩ := w29
                                    rw [c26] at h
                                    dsimp only at h
                                    refine x_callV (mc := 0) (ms := 0) (pc := 142) (bL := []) (K := []) C cs_M_117 (m_M_wake l c26 : x_M l _ _ _ _ (.inl (some (xI v27))) _ 0 0) (by decide) rfl (Nat.le_of_ble_eq_true rfl) (d_M_read 82 rfl) ?_
                                    refine x_popv (pc := 145) C rfl (d_M_read 83 rfl) ?_
                                    refine x_iload (pc := 146) C (d_M_read 84 rfl) 0 rfl ?_
                                    cases h
                                    exact x_iret (pc := 148) C hret rfl (Nat.zero_le _) (Nat.zero_le _) (d_M_read 85 rfl)
                              · rw [if_pos c22] at h
                                refine x_aload_n (pc := 122) C (d_M_read 70 rfl) rfl 1 rfl ?_
                                refine x_iload_n (pc := 123) C (d_M_read 71 rfl) rfl 2 rfl ?_
                                refine x_iload (pc := 124) C (d_M_read 72 rfl) 0 rfl ?_
                                refine x_iload_n (pc := 126) C (d_M_read 73 rfl) rfl 4 rfl ?_
                                cases c31 : f_M_readFile x0 x1 v8 x3 st5 with
                                | none => rw [c31] at h; cases h
                                | some w38 =>
                                  obtain ⟨v32, st33⟩ := w38
                                  rw [c31] at h
                                  dsimp only at h
                                  refine x_callV (mc := 0) (ms := 0) (pc := 127) (bL := [xI (x1), xI (v8), xI (x3)]) (K := []) C cs_M_155 (m_M_readFile l c31 : x_M l _ _ _ _ (.inl (some (xI v32))) _ 0 0) (by decide) rfl (Nat.le_of_ble_eq_true rfl) (d_M_read 74 rfl) ?_
                                  refine x_goto (pc := 130) (tgt := 139) C (d_M_read 75 rfl) (by decide) ?_
                                  refine x_istore (pc := 139) (L2 := [(5, xI (v32)), (4, xI (v8)), (0, xR 32 (some (x0))), (1, xI (x1)), (2, xI (x2)), (3, xI (x3))]) C (d_M_read 80 rfl) (by decide) rfl ?_
                                  refine x_aload_n (pc := 141) C (d_M_read 81 rfl) rfl 2 rfl ?_
                                  cases c34 : f_M_wake x0 st33 with
                                  | none => rw [c34] at h; cases h
                                  | some w37 =>
                                    obtain ⟨v35, st36⟩ := w37
                                    rw [c34] at h
                                    dsimp only at h
                                    refine x_callV (mc := 0) (ms := 0) (pc := 142) (bL := []) (K := []) C cs_M_117 (m_M_wake l c34 : x_M l _ _ _ _ (.inl (some (xI v35))) _ 0 0) (by decide) rfl (Nat.le_of_ble_eq_true rfl) (d_M_read 82 rfl) ?_
                                    refine x_popv (pc := 145) C rfl (d_M_read 83 rfl) ?_
                                    refine x_iload (pc := 146) C (d_M_read 84 rfl) 0 rfl ?_
                                    cases h
                                    exact x_iret (pc := 148) C hret rfl (Nat.zero_le _) (Nat.zero_le _) (d_M_read 85 rfl)
                            · rw [if_neg b21] at h; cases h
                          · rw [if_pos c20] at h
                            refine x_aload_n (pc := 95) C (d_M_read 55 rfl) rfl 1 rfl ?_
                            refine x_iload_n (pc := 96) C (d_M_read 56 rfl) rfl 2 rfl ?_
                            refine x_aload_n (pc := 97) C (d_M_read 57 rfl) rfl 1 rfl ?_
                            refine x_getR (pc := 98) (t := 39) C fl_M_29 rfl rfl (d_M_read 58 rfl) ?_
                            refine x_iload (pc := 101) C (d_M_read 59 rfl) 0 rfl ?_
                            cases c40 : st5.2.2.1 32 x0 7 with
                            | none => rw [c40] at h; cases h
                            | some i39 =>
                              rw [c40] at h
                              dsimp only at h
                              by_cases b41 : x_in v8 20
                              · rw [if_pos b41] at h
                                refine x_iald (pc := 103) C ar_39 b41 (d_M_read 60 rfl) ?_
                                refine x_iload_n (pc := 104) C (d_M_read 61 rfl) rfl 4 rfl ?_
                                cases c42 : f_M_readPipe x0 x1 (st5.1 39 i39 v8.toNatClampNeg) x3 st5 with
                                | none => rw [c42] at h; cases h
                                | some w49 =>
                                  obtain ⟨v43, st44⟩ := w49
                                  rw [c42] at h
                                  dsimp only at h
                                  refine x_callV (mc := 0) (ms := 0) (pc := 105) (bL := [xI (x1), xI (st5.1 39 i39 v8.toNatClampNeg), xI (x3)]) (K := []) C cs_M_152 (m_M_readPipe l c42 : x_M l _ _ _ _ (.inl (some (xI v43))) _ 0 0) (by decide) rfl (Nat.le_of_ble_eq_true rfl) (d_M_read 62 rfl) ?_
                                  refine x_goto (pc := 108) (tgt := 139) C (d_M_read 63 rfl) (by decide) ?_
                                  refine x_istore (pc := 139) (L2 := [(5, xI (v43)), (4, xI (v8)), (0, xR 32 (some (x0))), (1, xI (x1)), (2, xI (x2)), (3, xI (x3))]) C (d_M_read 80 rfl) (by decide) rfl ?_
                                  refine x_aload_n (pc := 141) C (d_M_read 81 rfl) rfl 2 rfl ?_
                                  cases c45 : f_M_wake x0 st44 with
                                  | none => rw [c45] at h; cases h
                                  | some w48 =>
                                    obtain ⟨v46, st47⟩ := w48
                                    rw [c45] at h
                                    dsimp only at h
                                    refine x_callV (mc := 0) (ms := 0) (pc := 142) (bL := []) (K := []) C cs_M_117 (m_M_wake l c45 : x_M l _ _ _ _ (.inl (some (xI v46))) _ 0 0) (by decide) rfl (Nat.le_of_ble_eq_true rfl) (d_M_read 82 rfl) ?_
                                    refine x_popv (pc := 145) C rfl (d_M_read 83 rfl) ?_
                                    refine x_iload (pc := 146) C (d_M_read 84 rfl) 0 rfl ?_
                                    cases h
                                    exact x_iret (pc := 148) C hret rfl (Nat.zero_le _) (Nat.zero_le _) (d_M_read 85 rfl)
                              · rw [if_neg b41] at h; cases h
                        · rw [if_neg b19] at h; cases h
                    · rw [if_neg c16] at h
                      refine x_aload_n (pc := 75) C (d_M_read 42 rfl) rfl 1 rfl ?_
                      refine x_iload_n (pc := 76) C (d_M_read 43 rfl) rfl 2 rfl ?_
                      refine x_iload_n (pc := 77) C (d_M_read 44 rfl) rfl 3 rfl ?_
                      refine x_iload_n (pc := 78) C (d_M_read 45 rfl) rfl 4 rfl ?_
                      refine x_iconst (pc := 79) (v := 2) C (by decide) (d_M_read 46 rfl) ?_
                      cases c50 : f_M_waitFor x0 x1 x2 x3 2 st5 with
                      | none => rw [c50] at h; cases h
                      | some w53 =>
                        obtain ⟨v51, st52⟩ := w53
                        rw [c50] at h
                        dsimp only at h
                        refine x_callV (mc := 0) (ms := 0) (pc := 80) (bL := [xI (x1), xI (x2), xI (x3), xI (2)]) (K := []) C cs_M_148 (m_M_waitFor l c50 : x_M l _ _ _ _ (.inl (some (xI v51))) _ 0 0) (by decide) rfl (Nat.le_of_ble_eq_true rfl) (d_M_read 47 rfl) ?_
                        cases h
                        exact x_iret (pc := 83) C hret rfl (Nat.zero_le _) (Nat.zero_le _) (d_M_read 48 rfl)
                · rw [if_pos c13] at h
                  refine x_iconst (pc := 62) (v := (-1)) C (by decide) (d_M_read 34 rfl) ?_
                  cases h
                  exact x_iret (pc := 63) C hret rfl (Nat.zero_le _) (Nat.zero_le _) (d_M_read 35 rfl)
              · rw [if_neg b12] at h; cases h
      · rw [if_neg c6] at h
        refine x_iconst (pc := 35) (v := 0) C (by decide) (d_M_read 18 rfl) ?_
        cases h
        exact x_iret (pc := 36) C hret rfl (Nat.zero_le _) (Nat.zero_le _) (d_M_read 19 rfl)
def f_M_read (x0 : Nat) (x1 : Int32) (x2 : Int32) (x3 : Int32) (st : XS) : Option (Int32 × XS) :=
  match f_M_isReady x0 x1 st with
  | none => none
  | some v58 =>
    if v58 = 0 then
      match f_M_in x3 0 8 st with
      | none => none
      | some v65 =>
        if v65 = 0 then
          f_M_read_29 x0 x1 x2 x3 1 1 (some (x0)) st
        else
          f_M_read_29 x0 x1 x2 x3 0 1 (some (x0)) st
    else
      match f_M_in x3 0 8 st with
      | none => none
      | some v61 =>
        if v61 = 0 then
          f_M_read_29 x0 x1 x2 x3 1 0 (some (x0)) st
        else
          f_M_read_29 x0 x1 x2 x3 0 0 (some (x0)) st
set_option maxRecDepth 100000 in
set_option maxHeartbeats 4000000 in
theorem m_M_read (l : Launch) {x0 : Nat} {x1 : Int32} {x2 : Int32} {x3 : Int32} {st : XS} {r : Int32} {st2 : XS} (h : f_M_read x0 x1 x2 x3 st = some (r, st2)) : x_M l M_M_read rm_M_read [xR 32 (some (x0)), xI (x1), xI (x2), xI (x3)] st (.inl (some (xI r))) st2 0 0 := by
  refine x_enter (Nat.le_of_ble_eq_true rfl) ?_
  intro p e s m below meth c D cA g args B C
  have hret := B.2.2.2.2.2.2.2.2.1
  have hmn := B.2.2.2.2.2.2.2.1
  have hex := B.2.2.2.2.2.2.2.2.2.1
  unfold f_M_read at h
  refine x_aload_n (pc := 0) C (d_M_read 0 rfl) rfl 0 rfl ?_
  refine x_aload_n (pc := 1) C (d_M_read 1 rfl) rfl 0 rfl ?_
  refine x_iload_n (pc := 2) C (d_M_read 2 rfl) rfl 1 rfl ?_
  cases c57 : f_M_isReady x0 x1 st with
  | none => rw [c57] at h; cases h
  | some v58 =>
    rw [c57] at h
    dsimp only at h
    refine x_callV (mc := 0) (ms := 0) (pc := 3) (bL := [xI (x1)]) (K := [xR 32 (some (x0))]) C cs_M_103 (m_M_isReady l c57 : x_M l _ _ _ _ (.inl (some (xI v58))) _ 0 0) (by decide) rfl (Nat.le_of_ble_eq_true rfl) (d_M_read 3 rfl) ?_
    refine x_if_ne (pc := 6) (tgt := 13) C (d_M_read 4 rfl) (by decide) (fun c59 => ?_) (fun c59 => ?_)
    · rw [if_neg c59] at h
      refine x_iconst (pc := 13) (v := 0) C (by decide) (d_M_read 7 rfl) ?_
      refine x_iload_n (pc := 14) C (d_M_read 8 rfl) rfl 3 rfl ?_
      refine x_iconst (pc := 15) (v := 0) C (by decide) (d_M_read 9 rfl) ?_
      refine x_bipush (pc := 16) (v := 8) C (by decide) (d_M_read 10 rfl) ?_
      cases c60 : f_M_in x3 0 8 st with
      | none => rw [c60] at h; cases h
      | some v61 =>
        rw [c60] at h
        dsimp only at h
        refine x_callS (mc := 0) (ms := 0) (pc := 18) (aL := [xI (x3), xI (0), xI (8)]) (K := [xI (0), xR 32 (some (x0))]) C cs_M_70 (m_M_in l c60 : x_M l _ _ _ _ (.inl (some (xI v61))) _ 0 0) (by decide) rfl (Nat.le_of_ble_eq_true rfl) (d_M_read 11 rfl) ?_
        refine x_if_ne (pc := 21) (tgt := 28) C (d_M_read 12 rfl) (by decide) (fun c62 => ?_) (fun c62 => ?_)
        · rw [if_neg c62] at h
          refine x_iconst (pc := 28) (v := 0) C (by decide) (d_M_read 15 rfl) ?_
          exact x_sub [0, 1, 2, 3] rfl (v_M_read_29 C hret hmn hex _ _ _ _ _ _ _ _ h)
        · rw [if_pos c62] at h
          refine x_iconst (pc := 24) (v := 1) C (by decide) (d_M_read 13 rfl) ?_
          refine x_goto (pc := 25) (tgt := 29) C (d_M_read 14 rfl) (by decide) ?_
          exact x_sub [0, 1, 2, 3] rfl (v_M_read_29 C hret hmn hex _ _ _ _ _ _ _ _ h)
    · rw [if_pos c59] at h
      refine x_iconst (pc := 9) (v := 1) C (by decide) (d_M_read 5 rfl) ?_
      refine x_goto (pc := 10) (tgt := 14) C (d_M_read 6 rfl) (by decide) ?_
      refine x_iload_n (pc := 14) C (d_M_read 8 rfl) rfl 3 rfl ?_
      refine x_iconst (pc := 15) (v := 0) C (by decide) (d_M_read 9 rfl) ?_
      refine x_bipush (pc := 16) (v := 8) C (by decide) (d_M_read 10 rfl) ?_
      cases c64 : f_M_in x3 0 8 st with
      | none => rw [c64] at h; cases h
      | some v65 =>
        rw [c64] at h
        dsimp only at h
        refine x_callS (mc := 0) (ms := 0) (pc := 18) (aL := [xI (x3), xI (0), xI (8)]) (K := [xI (1), xR 32 (some (x0))]) C cs_M_70 (m_M_in l c64 : x_M l _ _ _ _ (.inl (some (xI v65))) _ 0 0) (by decide) rfl (Nat.le_of_ble_eq_true rfl) (d_M_read 11 rfl) ?_
        refine x_if_ne (pc := 21) (tgt := 28) C (d_M_read 12 rfl) (by decide) (fun c66 => ?_) (fun c66 => ?_)
        · rw [if_neg c66] at h
          refine x_iconst (pc := 28) (v := 0) C (by decide) (d_M_read 15 rfl) ?_
          exact x_sub [0, 1, 2, 3] rfl (v_M_read_29 C hret hmn hex _ _ _ _ _ _ _ _ h)
        · rw [if_pos c66] at h
          refine x_iconst (pc := 24) (v := 1) C (by decide) (d_M_read 13 rfl) ?_
          refine x_goto (pc := 25) (tgt := 29) C (d_M_read 14 rfl) (by decide) ?_
          exact x_sub [0, 1, 2, 3] rfl (v_M_read_29 C hret hmn hex _ _ _ _ _ _ _ _ h)
def f_M_given (x0 : Nat) (x1 : Int32) (st : XS) : Option (Int64 × XS) :=
  match f_M_isThere x0 x1 (xsI st 32 x0 0 0) with
  | none => none
  | some v2 =>
    if v2 = 0 then
      some (0, xsI st 32 x0 0 0)
    else
      match (xsI st 32 x0 0 0).2.2.1 32 x0 5 with
      | none => none
      | some i4 =>
        if x_in x1 8 then
          some ((xsI st 32 x0 0 0).2.1 37 i4 x1.toNatClampNeg, xsI st 32 x0 0 0)
        else none
set_option maxRecDepth 100000 in
set_option maxHeartbeats 4000000 in
theorem m_M_given (l : Launch) {x0 : Nat} {x1 : Int32} {st : XS} {r : Int64} {st2 : XS} (h : f_M_given x0 x1 st = some (r, st2)) : x_M l M_M_given rm_M_given [xR 32 (some (x0)), xI (x1)] st (.inl (some (xL r))) st2 0 0 := by
  refine x_enter (Nat.le_of_ble_eq_true rfl) ?_
  intro p e s m below meth c D cA g args B C
  have hret := B.2.2.2.2.2.2.2.2.1
  have hmn := B.2.2.2.2.2.2.2.1
  have hex := B.2.2.2.2.2.2.2.2.2.1
  unfold f_M_given at h
  refine x_aload_n (pc := 0) C (d_M_given 0 rfl) rfl 0 rfl ?_
  refine x_iconst (pc := 1) (v := 0) C (by decide) (d_M_given 1 rfl) ?_
  refine x_putI (pc := 2) C fl_M_66 (pf_M_66 _) rfl ty_32_0 (d_M_given 2 rfl) ?_
  refine x_aload_n (pc := 5) C (d_M_given 3 rfl) rfl 0 rfl ?_
  refine x_iload_n (pc := 6) C (d_M_given 4 rfl) rfl 1 rfl ?_
  cases c1 : f_M_isThere x0 x1 (xsI st 32 x0 0 0) with
  | none => rw [c1] at h; cases h
  | some v2 =>
    rw [c1] at h
    dsimp only at h
    refine x_callV (mc := 0) (ms := 0) (pc := 7) (bL := [xI (x1)]) (K := []) C cs_M_111 (m_M_isThere l c1 : x_M l _ _ _ _ (.inl (some (xI v2))) _ 0 0) (by decide) rfl (Nat.le_of_ble_eq_true rfl) (d_M_given 5 rfl) ?_
    refine x_if_eq (pc := 10) (tgt := 22) C (d_M_given 6 rfl) (by decide) (fun c3 => ?_) (fun c3 => ?_)
    · rw [if_pos c3] at h
      refine x_lconst (pc := 22) (v := 0) C (by decide) (d_M_given 12 rfl) ?_
      cases h
      exact x_lret (pc := 23) C hret (Nat.zero_le _) (Nat.zero_le _) (d_M_given 13 rfl)
    · rw [if_neg c3] at h
      refine x_aload_n (pc := 13) C (d_M_given 7 rfl) rfl 0 rfl ?_
      refine x_getR (pc := 14) (t := 37) C fl_M_22 rfl rfl (d_M_given 8 rfl) ?_
      refine x_iload_n (pc := 17) C (d_M_given 9 rfl) rfl 1 rfl ?_
      cases c5 : (xsI st 32 x0 0 0).2.2.1 32 x0 5 with
      | none => rw [c5] at h; cases h
      | some i4 =>
        rw [c5] at h
        dsimp only at h
        by_cases b6 : x_in x1 8
        · rw [if_pos b6] at h
          refine x_lald (pc := 18) C ar_37 b6 (d_M_given 10 rfl) ?_
          refine x_goto (pc := 19) (tgt := 23) C (d_M_given 11 rfl) (by decide) ?_
          cases h
          exact x_lret (pc := 23) C hret (Nat.zero_le _) (Nat.zero_le _) (d_M_given 13 rfl)
        · rw [if_neg b6] at h; cases h
def f_M_writeFile_96  : Nat → Nat → Int32 → Int64 → Int32 → Int32 → Int32 → Int32 → XS → Option (Int32 × XS)
  | 0, _, _, _, _, _, _, _, _ => none
  | n + 1, x0, x1, x2, x4, x5, x6, x7, st =>
    if x4 ≤ x7 then
      match st.2.2.1 32 x0 8 with
      | none => none
      | some i2 =>
        if x_in x1 20 then
          match (xsI st 40 i2 x1.toNatClampNeg (x6 + x4)).2.2.1 32 x0 15 with
          | none => none
          | some i5 =>
            if x_in x5 6 then
              if (x6 + x4) ≤ ((xsI st 40 i2 x1.toNatClampNeg (x6 + x4)).1 47 i5 x5.toNatClampNeg) then
                if x_in x5 6 then
                  if x_in x5 6 then
                    some (x4, xsI (xsI st 40 i2 x1.toNatClampNeg (x6 + x4)) 47 i5 x5.toNatClampNeg ((xsI st 40 i2 x1.toNatClampNeg (x6 + x4)).1 47 i5 x5.toNatClampNeg))
                  else none
                else none
              else
                if x_in x5 6 then
                  some (x4, xsI (xsI st 40 i2 x1.toNatClampNeg (x6 + x4)) 47 i5 x5.toNatClampNeg (x6 + x4))
                else none
            else none
        else none
    else
      match st.2.2.1 32 x0 16 with
      | none => none
      | some i12 =>
        if x_in ((((64 : Int32) * x5) + x6) + x7) 384 then
          f_M_writeFile_96 n x0 x1 x2 x4 x5 x6 (x7 + 1) (xsI st 48 i12 ((((64 : Int32) * x5) + x6) + x7).toNatClampNeg (((x2 >>> (((8 : Int32) * ((x4 - (1 : Int32)) - x7)).toInt64 &&& 63)).toInt32) &&& (255 : Int32)))
        else none
set_option maxRecDepth 100000 in
set_option maxHeartbeats 4000000 in
theorem v_M_writeFile_96 {p : Program} {l : Launch} {e : Env} {s : State} {m : MethodId} {args : Array Value} {below : List Frame} {meth : Method} {c : Code} {D : va_G} {cA : Nat → ClassId} {g0 : Nat → Nat → Nat} {n0 : Nat → Nat} {r : Int32} {st2 : XS} (C : x_C p e rm_M_writeFile s m args meth c D cA (x_A g0 n0 s.heap.size) M_M_writeFile.2.1 M_M_writeFile.1 M_M_writeFile.2.2.1) (hret : meth.sig.returnType = M_M_writeFile.2.2.2.1) (hmn : meth.name = M_M_writeFile.2.2.2.2.2) (hex : c.exceptionTable.toList.map (fun h => (h.startPc, h.endPc, h.handlerPc, h.catchType)) = M_M_writeFile.2.2.2.2.1)  : ∀ (n : Nat) (x0 : Nat) (x1 : Int32) (x2 : Int64) (x4 : Int32) (x5 : Int32) (x6 : Int32) (x7 : Int32) (st : XS), f_M_writeFile_96 n x0 x1 x2 x4 x5 x6 x7 st = some (r, st2) → x_V p l e rm_M_writeFile s m args below meth c D cA (x_A g0 n0 s.heap.size) M_M_writeFile.2.2.1 g0 n0 (x_MQ D cA g0 n0 below s 0 0 (.inl (some (xI r))) st2) 96 [(0, xR 32 (some (x0))), (1, xI (x1)), (2, xL (x2)), (4, xI (x4)), (5, xI (x5)), (6, xI (x6)), (7, xI (x7))] [] st 0 0 := by
  intro n
  induction n with
  | zero => intro x0 x1 x2 x4 x5 x6 x7 st h; cases h
  | succ n ih =>
    intro x0 x1 x2 x4 x5 x6 x7 st h
    rw [f_M_writeFile_96.eq_def] at h
    dsimp only at h
    refine x_iload (pc := 96) C (d_M_writeFile 54 rfl) 6 rfl ?_
    refine x_iload (pc := 98) C (d_M_writeFile 55 rfl) 3 rfl ?_
    refine x_icmp_ge (pc := 100) (tgt := 142) C (d_M_writeFile 56 rfl) (by decide) (fun c1 => ?_) (fun c1 => ?_)
    · rw [if_pos c1] at h
      refine x_aload_n (pc := 142) C (d_M_writeFile 81 rfl) rfl 0 rfl ?_
      refine x_getR (pc := 143) (t := 40) C fl_M_32 rfl rfl (d_M_writeFile 82 rfl) ?_
      refine x_iload_n (pc := 146) C (d_M_writeFile 83 rfl) rfl 1 rfl ?_
      refine x_iload (pc := 147) C (d_M_writeFile 84 rfl) 5 rfl ?_
      refine x_iload (pc := 149) C (d_M_writeFile 85 rfl) 3 rfl ?_
      refine x_iadd (pc := 151) C (d_M_writeFile 86 rfl) ?_
      cases c3 : st.2.2.1 32 x0 8 with
      | none => rw [c3] at h; cases h
      | some i2 =>
        rw [c3] at h
        dsimp only at h
        by_cases b4 : x_in x1 20
        · rw [if_pos b4] at h
          refine x_iast (pc := 152) C ar_40 b4 (d_M_writeFile 87 rfl) ?_
          refine x_aload_n (pc := 153) C (d_M_writeFile 88 rfl) rfl 0 rfl ?_
          refine x_getR (pc := 154) (t := 47) C fl_M_54 rfl rfl (d_M_writeFile 89 rfl) ?_
          refine x_iload (pc := 157) C (d_M_writeFile 90 rfl) 4 rfl ?_
          refine x_iload (pc := 159) C (d_M_writeFile 91 rfl) 5 rfl ?_
          refine x_iload (pc := 161) C (d_M_writeFile 92 rfl) 3 rfl ?_
          refine x_iadd (pc := 163) C (d_M_writeFile 93 rfl) ?_
          refine x_aload_n (pc := 164) C (d_M_writeFile 94 rfl) rfl 0 rfl ?_
          refine x_getR (pc := 165) (t := 47) C fl_M_54 rfl rfl (d_M_writeFile 95 rfl) ?_
          refine x_iload (pc := 168) C (d_M_writeFile 96 rfl) 4 rfl ?_
          cases c6 : (xsI st 40 i2 x1.toNatClampNeg (x6 + x4)).2.2.1 32 x0 15 with
          | none => rw [c6] at h; cases h
          | some i5 =>
            rw [c6] at h
            dsimp only at h
            by_cases b7 : x_in x5 6
            · rw [if_pos b7] at h
              refine x_iald (pc := 170) C ar_47 b7 (d_M_writeFile 97 rfl) ?_
              refine x_icmp_le (pc := 171) (tgt := 182) C (d_M_writeFile 98 rfl) (by decide) (fun c8 => ?_) (fun c8 => ?_)
              · rw [if_pos c8] at h
                refine x_aload_n (pc := 182) C (d_M_writeFile 103 rfl) rfl 0 rfl ?_
                refine x_getR (pc := 183) (t := 47) C fl_M_54 rfl rfl (d_M_writeFile 104 rfl) ?_
                rw [c6]
                refine x_iload (pc := 186) C (d_M_writeFile 105 rfl) 4 rfl ?_
                by_cases b9 : x_in x5 6
                · rw [if_pos b9] at h
                  refine x_iald (pc := 188) C ar_47 b9 (d_M_writeFile 106 rfl) ?_
                  by_cases b10 : x_in x5 6
                  · rw [if_pos b10] at h
                    refine x_iast (pc := 189) C ar_47 b10 (d_M_writeFile 107 rfl) ?_
                    refine x_iload (pc := 190) C (d_M_writeFile 108 rfl) 3 rfl ?_
                    cases h
                    exact x_iret (pc := 192) C hret rfl (Nat.zero_le _) (Nat.zero_le _) (d_M_writeFile 109 rfl)
                  · rw [if_neg b10] at h; cases h
                · rw [if_neg b9] at h; cases h
              · rw [if_neg c8] at h
                refine x_iload (pc := 174) C (d_M_writeFile 99 rfl) 5 rfl ?_
                refine x_iload (pc := 176) C (d_M_writeFile 100 rfl) 3 rfl ?_
                refine x_iadd (pc := 178) C (d_M_writeFile 101 rfl) ?_
                refine x_goto (pc := 179) (tgt := 189) C (d_M_writeFile 102 rfl) (by decide) ?_
                by_cases b11 : x_in x5 6
                · rw [if_pos b11] at h
                  refine x_iast (pc := 189) C ar_47 b11 (d_M_writeFile 107 rfl) ?_
                  refine x_iload (pc := 190) C (d_M_writeFile 108 rfl) 3 rfl ?_
                  cases h
                  exact x_iret (pc := 192) C hret rfl (Nat.zero_le _) (Nat.zero_le _) (d_M_writeFile 109 rfl)
                · rw [if_neg b11] at h; cases h
            · rw [if_neg b7] at h; cases h
        · rw [if_neg b4] at h; cases h
    · rw [if_neg c1] at h
      refine x_aload_n (pc := 103) C (d_M_writeFile 57 rfl) rfl 0 rfl ?_
      refine x_getR (pc := 104) (t := 48) C fl_M_57 rfl rfl (d_M_writeFile 58 rfl) ?_
      refine x_bipush (pc := 107) (v := 64) C (by decide) (d_M_writeFile 59 rfl) ?_
      refine x_iload (pc := 109) C (d_M_writeFile 60 rfl) 4 rfl ?_
      refine x_imul (pc := 111) C (d_M_writeFile 61 rfl) ?_
      refine x_iload (pc := 112) C (d_M_writeFile 62 rfl) 5 rfl ?_
      refine x_iadd (pc := 114) C (d_M_writeFile 63 rfl) ?_
      refine x_iload (pc := 115) C (d_M_writeFile 64 rfl) 6 rfl ?_
      refine x_iadd (pc := 117) C (d_M_writeFile 65 rfl) ?_
      refine x_lload_n (pc := 118) C (d_M_writeFile 66 rfl) rfl 2 rfl ?_
      refine x_bipush (pc := 119) (v := 8) C (by decide) (d_M_writeFile 67 rfl) ?_
      refine x_iload (pc := 121) C (d_M_writeFile 68 rfl) 3 rfl ?_
      refine x_iconst (pc := 123) (v := 1) C (by decide) (d_M_writeFile 69 rfl) ?_
      refine x_isub (pc := 124) C (d_M_writeFile 70 rfl) ?_
      refine x_iload (pc := 125) C (d_M_writeFile 71 rfl) 6 rfl ?_
      refine x_isub (pc := 127) C (d_M_writeFile 72 rfl) ?_
      refine x_imul (pc := 128) C (d_M_writeFile 73 rfl) ?_
      refine x_lshr (pc := 129) C (d_M_writeFile 74 rfl) ?_
      refine x_l2i (pc := 130) C (d_M_writeFile 75 rfl) ?_
      refine x_sipush (pc := 131) (v := 255) C (by decide) (d_M_writeFile 76 rfl) ?_
      refine x_iand (pc := 134) C (d_M_writeFile 77 rfl) ?_
      cases c13 : st.2.2.1 32 x0 16 with
      | none => rw [c13] at h; cases h
      | some i12 =>
        rw [c13] at h
        dsimp only at h
        by_cases b14 : x_in ((((64 : Int32) * x5) + x6) + x7) 384
        · rw [if_pos b14] at h
          refine x_iast (pc := 135) C ar_48 b14 (d_M_writeFile 78 rfl) ?_
          refine x_iinc (pc := 136) (v := x7 + 1) (L2 := [(7, xI (x7 + 1)), (0, xR 32 (some (x0))), (1, xI (x1)), (2, xL (x2)), (4, xI (x4)), (5, xI (x5)), (6, xI (x6))]) C (d_M_writeFile 79 rfl) 6 rfl rfl (by decide) rfl ?_
          refine x_goto (pc := 139) (tgt := 96) C (d_M_writeFile 80 rfl) (by decide) ?_
          exact x_sub [1, 2, 3, 4, 5, 6, 0] rfl (ih _ _ _ _ _ _ _ _ h)
        · rw [if_neg b14] at h; cases h
def f_M_writeFile_66  : Nat → Nat → Int32 → Int64 → Int32 → Int32 → Int32 → Int32 → XS → Option (Int32 × XS)
  | 0, _, _, _, _, _, _, _, _ => none
  | n + 1, x0, x1, x2, x4, x5, x6, x7, st =>
    if x6 ≤ x7 then
      f_M_writeFile_96 100 x0 x1 x2 x4 x5 x6 0 st
    else
      match st.2.2.1 32 x0 16 with
      | none => none
      | some i16 =>
        if x_in (((64 : Int32) * x5) + x7) 384 then
          f_M_writeFile_66 n x0 x1 x2 x4 x5 x6 (x7 + 1) (xsI st 48 i16 (((64 : Int32) * x5) + x7).toNatClampNeg 0)
        else none
set_option maxRecDepth 100000 in
set_option maxHeartbeats 4000000 in
theorem v_M_writeFile_66 {p : Program} {l : Launch} {e : Env} {s : State} {m : MethodId} {args : Array Value} {below : List Frame} {meth : Method} {c : Code} {D : va_G} {cA : Nat → ClassId} {g0 : Nat → Nat → Nat} {n0 : Nat → Nat} {r : Int32} {st2 : XS} (C : x_C p e rm_M_writeFile s m args meth c D cA (x_A g0 n0 s.heap.size) M_M_writeFile.2.1 M_M_writeFile.1 M_M_writeFile.2.2.1) (hret : meth.sig.returnType = M_M_writeFile.2.2.2.1) (hmn : meth.name = M_M_writeFile.2.2.2.2.2) (hex : c.exceptionTable.toList.map (fun h => (h.startPc, h.endPc, h.handlerPc, h.catchType)) = M_M_writeFile.2.2.2.2.1)  : ∀ (n : Nat) (x0 : Nat) (x1 : Int32) (x2 : Int64) (x4 : Int32) (x5 : Int32) (x6 : Int32) (x7 : Int32) (st : XS), f_M_writeFile_66 n x0 x1 x2 x4 x5 x6 x7 st = some (r, st2) → x_V p l e rm_M_writeFile s m args below meth c D cA (x_A g0 n0 s.heap.size) M_M_writeFile.2.2.1 g0 n0 (x_MQ D cA g0 n0 below s 0 0 (.inl (some (xI r))) st2) 66 [(0, xR 32 (some (x0))), (1, xI (x1)), (2, xL (x2)), (4, xI (x4)), (5, xI (x5)), (6, xI (x6)), (7, xI (x7))] [] st 0 0 := by
  intro n
  induction n with
  | zero => intro x0 x1 x2 x4 x5 x6 x7 st h; cases h
  | succ n ih =>
    intro x0 x1 x2 x4 x5 x6 x7 st h
    rw [f_M_writeFile_66.eq_def] at h
    dsimp only at h
    refine x_iload (pc := 66) C (d_M_writeFile 38 rfl) 6 rfl ?_
    refine x_iload (pc := 68) C (d_M_writeFile 39 rfl) 5 rfl ?_
    refine x_icmp_ge (pc := 70) (tgt := 93) C (d_M_writeFile 40 rfl) (by decide) (fun c15 => ?_) (fun c15 => ?_)
    · rw [if_pos c15] at h
      refine x_iconst (pc := 93) (v := 0) C (by decide) (d_M_writeFile 52 rfl) ?_
      refine x_istore (pc := 94) (L2 := [(7, xI (0)), (0, xR 32 (some (x0))), (1, xI (x1)), (2, xL (x2)), (4, xI (x4)), (5, xI (x5)), (6, xI (x6))]) C (d_M_writeFile 53 rfl) (by decide) rfl ?_
      exact x_sub [1, 2, 3, 4, 5, 6, 0] rfl (v_M_writeFile_96 C hret hmn hex 100 _ _ _ _ _ _ _ _ h)
    · rw [if_neg c15] at h
      refine x_aload_n (pc := 73) C (d_M_writeFile 41 rfl) rfl 0 rfl ?_
      refine x_getR (pc := 74) (t := 48) C fl_M_57 rfl rfl (d_M_writeFile 42 rfl) ?_
      refine x_bipush (pc := 77) (v := 64) C (by decide) (d_M_writeFile 43 rfl) ?_
      refine x_iload (pc := 79) C (d_M_writeFile 44 rfl) 4 rfl ?_
      refine x_imul (pc := 81) C (d_M_writeFile 45 rfl) ?_
      refine x_iload (pc := 82) C (d_M_writeFile 46 rfl) 6 rfl ?_
      refine x_iadd (pc := 84) C (d_M_writeFile 47 rfl) ?_
      refine x_iconst (pc := 85) (v := 0) C (by decide) (d_M_writeFile 48 rfl) ?_
      cases c17 : st.2.2.1 32 x0 16 with
      | none => rw [c17] at h; cases h
      | some i16 =>
        rw [c17] at h
        dsimp only at h
        by_cases b18 : x_in (((64 : Int32) * x5) + x7) 384
        · rw [if_pos b18] at h
          refine x_iast (pc := 86) C ar_48 b18 (d_M_writeFile 49 rfl) ?_
          refine x_iinc (pc := 87) (v := x7 + 1) (L2 := [(7, xI (x7 + 1)), (0, xR 32 (some (x0))), (1, xI (x1)), (2, xL (x2)), (4, xI (x4)), (5, xI (x5)), (6, xI (x6))]) C (d_M_writeFile 50 rfl) 6 rfl rfl (by decide) rfl ?_
          refine x_goto (pc := 90) (tgt := 66) C (d_M_writeFile 51 rfl) (by decide) ?_
          exact x_sub [1, 2, 3, 4, 5, 6, 0] rfl (ih _ _ _ _ _ _ _ _ h)
        · rw [if_neg b18] at h; cases h
def f_M_writeFile (x0 : Nat) (x1 : Int32) (x2 : Int64) (x4 : Int32) (st : XS) : Option (Int32 × XS) :=
  if x4 = 0 then
    some (0, st)
  else
    match st.2.2.1 32 x0 7 with
    | none => none
    | some i20 =>
      if x_in x1 20 then
        match st.2.2.1 32 x0 9 with
        | none => none
        | some i23 =>
          if x_in x1 20 then
            if ((st.1 41 i23 x1.toNatClampNeg) &&& (4 : Int32)) ≤ 0 then
              match st.2.2.1 32 x0 8 with
              | none => none
              | some i27 =>
                if x_in x1 20 then
                  if ((st.1 40 i27 x1.toNatClampNeg) + x4) ≤ 64 then
                    match st.2.2.1 32 x0 15 with
                    | none => none
                    | some i31 =>
                      if x_in (st.1 39 i20 x1.toNatClampNeg) 6 then
                        f_M_writeFile_66 100 x0 x1 x2 x4 (st.1 39 i20 x1.toNatClampNeg) (st.1 40 i27 x1.toNatClampNeg) (st.1 47 i31 (st.1 39 i20 x1.toNatClampNeg).toNatClampNeg) st
                      else none
                  else
                    some ((-7), st)
                else none
            else
              match st.2.2.1 32 x0 15 with
              | none => none
              | some i34 =>
                if x_in (st.1 39 i20 x1.toNatClampNeg) 6 then
                  if ((st.1 47 i34 (st.1 39 i20 x1.toNatClampNeg).toNatClampNeg) + x4) ≤ 64 then
                    if x_in (st.1 39 i20 x1.toNatClampNeg) 6 then
                      f_M_writeFile_66 100 x0 x1 x2 x4 (st.1 39 i20 x1.toNatClampNeg) (st.1 47 i34 (st.1 39 i20 x1.toNatClampNeg).toNatClampNeg) (st.1 47 i34 (st.1 39 i20 x1.toNatClampNeg).toNatClampNeg) st
                    else none
                  else
                    some ((-7), st)
                else none
          else none
      else none
set_option maxRecDepth 100000 in
set_option maxHeartbeats 4000000 in
theorem m_M_writeFile (l : Launch) {x0 : Nat} {x1 : Int32} {x2 : Int64} {x4 : Int32} {st : XS} {r : Int32} {st2 : XS} (h : f_M_writeFile x0 x1 x2 x4 st = some (r, st2)) : x_M l M_M_writeFile rm_M_writeFile [xR 32 (some (x0)), xI (x1), xL (x2), xI (x4)] st (.inl (some (xI r))) st2 0 0 := by
  refine x_enter (Nat.le_of_ble_eq_true rfl) ?_
  intro p e s m below meth c D cA g args B C
  have hret := B.2.2.2.2.2.2.2.2.1
  have hmn := B.2.2.2.2.2.2.2.1
  have hex := B.2.2.2.2.2.2.2.2.2.1
  unfold f_M_writeFile at h
  refine x_iload (pc := 0) C (d_M_writeFile 0 rfl) 3 rfl ?_
  refine x_if_ne (pc := 2) (tgt := 7) C (d_M_writeFile 1 rfl) (by decide) (fun c19 => ?_) (fun c19 => ?_)
  · rw [if_neg c19] at h
    refine x_aload_n (pc := 7) C (d_M_writeFile 4 rfl) rfl 0 rfl ?_
    refine x_getR (pc := 8) (t := 39) C fl_M_29 rfl rfl (d_M_writeFile 5 rfl) ?_
    refine x_iload_n (pc := 11) C (d_M_writeFile 6 rfl) rfl 1 rfl ?_
    cases c21 : st.2.2.1 32 x0 7 with
    | none => rw [c21] at h; cases h
    | some i20 =>
      rw [c21] at h
      dsimp only at h
      by_cases b22 : x_in x1 20
      · rw [if_pos b22] at h
        refine x_iald (pc := 12) C ar_39 b22 (d_M_writeFile 7 rfl) ?_
        refine x_istore (pc := 13) (L2 := [(5, xI (st.1 39 i20 x1.toNatClampNeg)), (0, xR 32 (some (x0))), (1, xI (x1)), (2, xL (x2)), (4, xI (x4))]) C (d_M_writeFile 8 rfl) (by decide) rfl ?_
        refine x_aload_n (pc := 15) C (d_M_writeFile 9 rfl) rfl 1 rfl ?_
        refine x_getR (pc := 16) (t := 41) C fl_M_35 rfl rfl (d_M_writeFile 10 rfl) ?_
        refine x_iload_n (pc := 19) C (d_M_writeFile 11 rfl) rfl 2 rfl ?_
        cases c24 : st.2.2.1 32 x0 9 with
        | none => rw [c24] at h; cases h
        | some i23 =>
          rw [c24] at h
          dsimp only at h
          by_cases b25 : x_in x1 20
          · rw [if_pos b25] at h
            refine x_iald (pc := 20) C ar_41 b25 (d_M_writeFile 12 rfl) ?_
            refine x_iconst (pc := 21) (v := 4) C (by decide) (d_M_writeFile 13 rfl) ?_
            refine x_iand (pc := 22) C (d_M_writeFile 14 rfl) ?_
            refine x_if_le (pc := 23) (tgt := 36) C (d_M_writeFile 15 rfl) (by decide) (fun c26 => ?_) (fun c26 => ?_)
            · rw [if_pos c26] at h
              refine x_aload_n (pc := 36) C (d_M_writeFile 21 rfl) rfl 1 rfl ?_
              refine x_getR (pc := 37) (t := 40) C fl_M_32 rfl rfl (d_M_writeFile 22 rfl) ?_
              refine x_iload_n (pc := 40) C (d_M_writeFile 23 rfl) rfl 2 rfl ?_
              cases c28 : st.2.2.1 32 x0 8 with
              | none => rw [c28] at h; cases h
              | some i27 =>
                rw [c28] at h
                dsimp only at h
                by_cases b29 : x_in x1 20
                · rw [if_pos b29] at h
                  refine x_iald (pc := 41) C ar_40 b29 (d_M_writeFile 24 rfl) ?_
                  refine x_istore (pc := 42) (L2 := [(6, xI (st.1 40 i27 x1.toNatClampNeg)), (5, xI (st.1 39 i20 x1.toNatClampNeg)), (0, xR 32 (some (x0))), (1, xI (x1)), (2, xL (x2)), (4, xI (x4))]) C (d_M_writeFile 25 rfl) (by decide) rfl ?_
                  refine x_iload (pc := 44) C (d_M_writeFile 26 rfl) 0 rfl ?_
                  refine x_iload (pc := 46) C (d_M_writeFile 27 rfl) 5 rfl ?_
                  refine x_iadd (pc := 48) C (d_M_writeFile 28 rfl) ?_
                  refine x_bipush (pc := 49) (v := 64) C (by decide) (d_M_writeFile 29 rfl) ?_
                  refine x_icmp_le (pc := 51) (tgt := 57) C (d_M_writeFile 30 rfl) (by decide) (fun c30 => ?_) (fun c30 => ?_)
                  · rw [if_pos c30] at h
                    refine x_aload_n (pc := 57) C (d_M_writeFile 33 rfl) rfl 2 rfl ?_
                    refine x_getR (pc := 58) (t := 47) C fl_M_54 rfl rfl (d_M_writeFile 34 rfl) ?_
                    refine x_iload (pc := 61) C (d_M_writeFile 35 rfl) 1 rfl ?_
                    cases c32 : st.2.2.1 32 x0 15 with
                    | none => rw [c32] at h; cases h
                    | some i31 =>
                      rw [c32] at h
                      dsimp only at h
                      by_cases b33 : x_in (st.1 39 i20 x1.toNatClampNeg) 6
                      · rw [if_pos b33] at h
                        refine x_iald (pc := 63) C ar_47 b33 (d_M_writeFile 36 rfl) ?_
                        refine x_istore (pc := 64) (L2 := [(7, xI (st.1 47 i31 (st.1 39 i20 x1.toNatClampNeg).toNatClampNeg)), (6, xI (st.1 40 i27 x1.toNatClampNeg)), (5, xI (st.1 39 i20 x1.toNatClampNeg)), (0, xR 32 (some (x0))), (1, xI (x1)), (2, xL (x2)), (4, xI (x4))]) C (d_M_writeFile 37 rfl) (by decide) rfl ?_
                        exact x_sub [3, 4, 5, 6, 2, 1, 0] rfl (v_M_writeFile_66 C hret hmn hex 100 _ _ _ _ _ _ _ _ h)
                      · rw [if_neg b33] at h; cases h
                  · rw [if_neg c30] at h
                    refine x_bipush (pc := 54) (v := (-7)) C (by decide) (d_M_writeFile 31 rfl) ?_
                    cases h
                    exact x_iret (pc := 56) C hret rfl (Nat.zero_le _) (Nat.zero_le _) (d_M_writeFile 32 rfl)
                · rw [if_neg b29] at h; cases h
            · rw [if_neg c26] at h
              refine x_aload_n (pc := 26) C (d_M_writeFile 16 rfl) rfl 1 rfl ?_
              refine x_getR (pc := 27) (t := 47) C fl_M_54 rfl rfl (d_M_writeFile 17 rfl) ?_
              refine x_iload (pc := 30) C (d_M_writeFile 18 rfl) 0 rfl ?_
              cases c35 : st.2.2.1 32 x0 15 with
              | none => rw [c35] at h; cases h
              | some i34 =>
                rw [c35] at h
                dsimp only at h
                by_cases b36 : x_in (st.1 39 i20 x1.toNatClampNeg) 6
                · rw [if_pos b36] at h
                  refine x_iald (pc := 32) C ar_47 b36 (d_M_writeFile 19 rfl) ?_
                  refine x_goto (pc := 33) (tgt := 42) C (d_M_writeFile 20 rfl) (by decide) ?_
                  refine x_istore (pc := 42) (L2 := [(6, xI (st.1 47 i34 (st.1 39 i20 x1.toNatClampNeg).toNatClampNeg)), (5, xI (st.1 39 i20 x1.toNatClampNeg)), (0, xR 32 (some (x0))), (1, xI (x1)), (2, xL (x2)), (4, xI (x4))]) C (d_M_writeFile 25 rfl) (by decide) rfl ?_
                  refine x_iload (pc := 44) C (d_M_writeFile 26 rfl) 0 rfl ?_
                  refine x_iload (pc := 46) C (d_M_writeFile 27 rfl) 5 rfl ?_
                  refine x_iadd (pc := 48) C (d_M_writeFile 28 rfl) ?_
                  refine x_bipush (pc := 49) (v := 64) C (by decide) (d_M_writeFile 29 rfl) ?_
                  refine x_icmp_le (pc := 51) (tgt := 57) C (d_M_writeFile 30 rfl) (by decide) (fun c37 => ?_) (fun c37 => ?_)
                  · rw [if_pos c37] at h
                    refine x_aload_n (pc := 57) C (d_M_writeFile 33 rfl) rfl 2 rfl ?_
                    refine x_getR (pc := 58) (t := 47) C fl_M_54 rfl rfl (d_M_writeFile 34 rfl) ?_
                    rw [c35]
                    refine x_iload (pc := 61) C (d_M_writeFile 35 rfl) 1 rfl ?_
                    by_cases b38 : x_in (st.1 39 i20 x1.toNatClampNeg) 6
                    · rw [if_pos b38] at h
                      refine x_iald (pc := 63) C ar_47 b38 (d_M_writeFile 36 rfl) ?_
                      refine x_istore (pc := 64) (L2 := [(7, xI (st.1 47 i34 (st.1 39 i20 x1.toNatClampNeg).toNatClampNeg)), (6, xI (st.1 47 i34 (st.1 39 i20 x1.toNatClampNeg).toNatClampNeg)), (5, xI (st.1 39 i20 x1.toNatClampNeg)), (0, xR 32 (some (x0))), (1, xI (x1)), (2, xL (x2)), (4, xI (x4))]) C (d_M_writeFile 37 rfl) (by decide) rfl ?_
                      exact x_sub [3, 4, 5, 6, 2, 1, 0] rfl (v_M_writeFile_66 C hret hmn hex 100 _ _ _ _ _ _ _ _ h)
                    · rw [if_neg b38] at h; cases h
                  · rw [if_neg c37] at h
                    refine x_bipush (pc := 54) (v := (-7)) C (by decide) (d_M_writeFile 31 rfl) ?_
                    cases h
                    exact x_iret (pc := 56) C hret rfl (Nat.zero_le _) (Nat.zero_le _) (d_M_writeFile 32 rfl)
                · rw [if_neg b36] at h; cases h
          · rw [if_neg b25] at h; cases h
      · rw [if_neg b22] at h; cases h
  · rw [if_pos c19] at h
    refine x_iconst (pc := 5) (v := 0) C (by decide) (d_M_writeFile 2 rfl) ?_
    cases h
    exact x_iret (pc := 6) C hret rfl (Nat.zero_le _) (Nat.zero_le _) (d_M_writeFile 3 rfl)
def f_M_show_39  (x0 : Nat) (x1 : Int32) (st : XS) : Option (Unit × XS) :=
  if 0 ≤ (lg_cmp (st.2.1 32 x0 19) 60) then
    match st.2.2.1 32 x0 20 with
    | none => none
    | some i2 =>
      if x_in 59 60 then
        some ((), xsJ (xsI st 50 i2 (59 : Int32).toNatClampNeg x1) 32 x0 19 (((xsI st 50 i2 (59 : Int32).toNatClampNeg x1).2.1 32 x0 19) + (1 : Int64)))
      else none
  else
    match st.2.2.1 32 x0 20 with
    | none => none
    | some i5 =>
      if x_in ((st.2.1 32 x0 19).toInt32) 60 then
        some ((), xsJ (xsI st 50 i5 ((st.2.1 32 x0 19).toInt32).toNatClampNeg x1) 32 x0 19 (((xsI st 50 i5 ((st.2.1 32 x0 19).toInt32).toNatClampNeg x1).2.1 32 x0 19) + (1 : Int64)))
      else none
set_option maxRecDepth 100000 in
set_option maxHeartbeats 4000000 in
theorem v_M_show_39 {p : Program} {l : Launch} {e : Env} {s : State} {m : MethodId} {args : Array Value} {below : List Frame} {meth : Method} {c : Code} {D : va_G} {cA : Nat → ClassId} {g0 : Nat → Nat → Nat} {n0 : Nat → Nat} {r : Unit} {st2 : XS} (C : x_C p e rm_M_show s m args meth c D cA (x_A g0 n0 s.heap.size) M_M_show.2.1 M_M_show.1 M_M_show.2.2.1) (hret : meth.sig.returnType = M_M_show.2.2.2.1) (hmn : meth.name = M_M_show.2.2.2.2.2) (hex : c.exceptionTable.toList.map (fun h => (h.startPc, h.endPc, h.handlerPc, h.catchType)) = M_M_show.2.2.2.2.1)  (x0 : Nat) (x1 : Int32) (st : XS) (h : f_M_show_39 x0 x1 st = some (r, st2)) : x_V p l e rm_M_show s m args below meth c D cA (x_A g0 n0 s.heap.size) M_M_show.2.2.1 g0 n0 (x_MQ D cA g0 n0 below s 0 0 (.inl (none)) st2) 39 [(0, xR 32 (some (x0))), (1, xI (x1))] [] st 0 0 := by
  unfold f_M_show_39 at h
  refine x_aload_n (pc := 39) C (d_M_show 22 rfl) rfl 0 rfl ?_
  refine x_getR (pc := 40) (t := 50) C fl_M_63 rfl rfl (d_M_show 23 rfl) ?_
  refine x_aload_n (pc := 43) C (d_M_show 24 rfl) rfl 0 rfl ?_
  refine x_getJ (pc := 44) C fl_M_161 rfl (d_M_show 25 rfl) ?_
  refine x_ldc2 (pc := 47) C w_843 (d_M_show 26 rfl) ?_
  refine x_lcmp (pc := 50) C (d_M_show 27 rfl) ?_
  refine x_if_ge (pc := 51) (tgt := 62) C (d_M_show 28 rfl) (by decide) (fun c1 => ?_) (fun c1 => ?_)
  · rw [if_pos c1] at h
    refine x_bipush (pc := 62) (v := 59) C (by decide) (d_M_show 33 rfl) ?_
    refine x_iload_n (pc := 64) C (d_M_show 34 rfl) rfl 1 rfl ?_
    cases c3 : st.2.2.1 32 x0 20 with
    | none => rw [c3] at h; cases h
    | some i2 =>
      rw [c3] at h
      dsimp only at h
      by_cases b4 : x_in 59 60
      · rw [if_pos b4] at h
        refine x_iast (pc := 65) C ar_50 b4 (d_M_show 35 rfl) ?_
        refine x_aload_n (pc := 66) C (d_M_show 36 rfl) rfl 0 rfl ?_
        refine x_dup (pc := 67) C rfl (d_M_show 37 rfl) ?_
        refine x_getJ (pc := 68) C fl_M_161 rfl (d_M_show 38 rfl) ?_
        refine x_lconst (pc := 71) (v := 1) C (by decide) (d_M_show 39 rfl) ?_
        refine x_ladd (pc := 72) C (d_M_show 40 rfl) ?_
        refine x_putJ (pc := 73) C fl_M_161 (pf_M_161 _) rfl ty_32_19 (d_M_show 41 rfl) ?_
        cases h
        exact x_vret (pc := 76) C hret (Nat.zero_le _) (Nat.zero_le _) (d_M_show 42 rfl)
      · rw [if_neg b4] at h; cases h
  · rw [if_neg c1] at h
    refine x_aload_n (pc := 54) C (d_M_show 29 rfl) rfl 0 rfl ?_
    refine x_getJ (pc := 55) C fl_M_161 rfl (d_M_show 30 rfl) ?_
    refine x_l2i (pc := 58) C (d_M_show 31 rfl) ?_
    refine x_goto (pc := 59) (tgt := 64) C (d_M_show 32 rfl) (by decide) ?_
    refine x_iload_n (pc := 64) C (d_M_show 34 rfl) rfl 1 rfl ?_
    cases c6 : st.2.2.1 32 x0 20 with
    | none => rw [c6] at h; cases h
    | some i5 =>
      rw [c6] at h
      dsimp only at h
      by_cases b7 : x_in ((st.2.1 32 x0 19).toInt32) 60
      · rw [if_pos b7] at h
        refine x_iast (pc := 65) C ar_50 b7 (d_M_show 35 rfl) ?_
        refine x_aload_n (pc := 66) C (d_M_show 36 rfl) rfl 0 rfl ?_
        refine x_dup (pc := 67) C rfl (d_M_show 37 rfl) ?_
        refine x_getJ (pc := 68) C fl_M_161 rfl (d_M_show 38 rfl) ?_
        refine x_lconst (pc := 71) (v := 1) C (by decide) (d_M_show 39 rfl) ?_
        refine x_ladd (pc := 72) C (d_M_show 40 rfl) ?_
        refine x_putJ (pc := 73) C fl_M_161 (pf_M_161 _) rfl ty_32_19 (d_M_show 41 rfl) ?_
        cases h
        exact x_vret (pc := 76) C hret (Nat.zero_le _) (Nat.zero_le _) (d_M_show 42 rfl)
      · rw [if_neg b7] at h; cases h
def f_M_show_13  : Nat → Nat → Int32 → Int32 → XS → Option (Unit × XS)
  | 0, _, _, _, _ => none
  | n + 1, x0, x1, x2, st =>
    if 60 ≤ x2 then
      f_M_show_39 x0 x1 st
    else
      match st.2.2.1 32 x0 20 with
      | none => none
      | some i9 =>
        if x_in x2 60 then
          if x_in (x2 - (1 : Int32)) 60 then
            f_M_show_13 n x0 x1 (x2 + 1) (xsI st 50 i9 (x2 - (1 : Int32)).toNatClampNeg (st.1 50 i9 x2.toNatClampNeg))
          else none
        else none
set_option maxRecDepth 100000 in
set_option maxHeartbeats 4000000 in
theorem v_M_show_13 {p : Program} {l : Launch} {e : Env} {s : State} {m : MethodId} {args : Array Value} {below : List Frame} {meth : Method} {c : Code} {D : va_G} {cA : Nat → ClassId} {g0 : Nat → Nat → Nat} {n0 : Nat → Nat} {r : Unit} {st2 : XS} (C : x_C p e rm_M_show s m args meth c D cA (x_A g0 n0 s.heap.size) M_M_show.2.1 M_M_show.1 M_M_show.2.2.1) (hret : meth.sig.returnType = M_M_show.2.2.2.1) (hmn : meth.name = M_M_show.2.2.2.2.2) (hex : c.exceptionTable.toList.map (fun h => (h.startPc, h.endPc, h.handlerPc, h.catchType)) = M_M_show.2.2.2.2.1)  : ∀ (n : Nat) (x0 : Nat) (x1 : Int32) (x2 : Int32) (st : XS), f_M_show_13 n x0 x1 x2 st = some (r, st2) → x_V p l e rm_M_show s m args below meth c D cA (x_A g0 n0 s.heap.size) M_M_show.2.2.1 g0 n0 (x_MQ D cA g0 n0 below s 0 0 (.inl (none)) st2) 13 [(0, xR 32 (some (x0))), (1, xI (x1)), (2, xI (x2))] [] st 0 0 := by
  intro n
  induction n with
  | zero => intro x0 x1 x2 st h; cases h
  | succ n ih =>
    intro x0 x1 x2 st h
    rw [f_M_show_13.eq_def] at h
    dsimp only at h
    refine x_iload_n (pc := 13) C (d_M_show 7 rfl) rfl 2 rfl ?_
    refine x_bipush (pc := 14) (v := 60) C (by decide) (d_M_show 8 rfl) ?_
    refine x_icmp_ge (pc := 16) (tgt := 39) C (d_M_show 9 rfl) (by decide) (fun c8 => ?_) (fun c8 => ?_)
    · rw [if_pos c8] at h
      exact x_sub [0, 1] rfl (v_M_show_39 C hret hmn hex _ _ _ h)
    · rw [if_neg c8] at h
      refine x_aload_n (pc := 19) C (d_M_show 10 rfl) rfl 0 rfl ?_
      refine x_getR (pc := 20) (t := 50) C fl_M_63 rfl rfl (d_M_show 11 rfl) ?_
      refine x_iload_n (pc := 23) C (d_M_show 12 rfl) rfl 2 rfl ?_
      refine x_iconst (pc := 24) (v := 1) C (by decide) (d_M_show 13 rfl) ?_
      refine x_isub (pc := 25) C (d_M_show 14 rfl) ?_
      refine x_aload_n (pc := 26) C (d_M_show 15 rfl) rfl 0 rfl ?_
      refine x_getR (pc := 27) (t := 50) C fl_M_63 rfl rfl (d_M_show 16 rfl) ?_
      refine x_iload_n (pc := 30) C (d_M_show 17 rfl) rfl 2 rfl ?_
      cases c10 : st.2.2.1 32 x0 20 with
      | none => rw [c10] at h; cases h
      | some i9 =>
        rw [c10] at h
        dsimp only at h
        by_cases b11 : x_in x2 60
        · rw [if_pos b11] at h
          refine x_iald (pc := 31) C ar_50 b11 (d_M_show 18 rfl) ?_
          by_cases b12 : x_in (x2 - (1 : Int32)) 60
          · rw [if_pos b12] at h
            refine x_iast (pc := 32) C ar_50 b12 (d_M_show 19 rfl) ?_
            refine x_iinc (pc := 33) (v := x2 + 1) (L2 := [(2, xI (x2 + 1)), (0, xR 32 (some (x0))), (1, xI (x1))]) C (d_M_show 20 rfl) 2 rfl rfl (by decide) rfl ?_
            refine x_goto (pc := 36) (tgt := 13) C (d_M_show 21 rfl) (by decide) ?_
            exact x_sub [1, 2, 0] rfl (ih _ _ _ _ h)
          · rw [if_neg b12] at h; cases h
        · rw [if_neg b11] at h; cases h
def f_M_show (x0 : Nat) (x1 : Int32) (st : XS) : Option (Unit × XS) :=
  if (lg_cmp (st.2.1 32 x0 19) 60) < 0 then
    f_M_show_39 x0 x1 st
  else
    f_M_show_13 100 x0 x1 1 st
set_option maxRecDepth 100000 in
set_option maxHeartbeats 4000000 in
theorem m_M_show (l : Launch) {x0 : Nat} {x1 : Int32} {st : XS} {r : Unit} {st2 : XS} (h : f_M_show x0 x1 st = some (r, st2)) : x_M l M_M_show rm_M_show [xR 32 (some (x0)), xI (x1)] st (.inl (none)) st2 0 0 := by
  refine x_enter (Nat.le_of_ble_eq_true rfl) ?_
  intro p e s m below meth c D cA g args B C
  have hret := B.2.2.2.2.2.2.2.2.1
  have hmn := B.2.2.2.2.2.2.2.1
  have hex := B.2.2.2.2.2.2.2.2.2.1
  unfold f_M_show at h
  refine x_aload_n (pc := 0) C (d_M_show 0 rfl) rfl 0 rfl ?_
  refine x_getJ (pc := 1) C fl_M_161 rfl (d_M_show 1 rfl) ?_
  refine x_ldc2 (pc := 4) C w_843 (d_M_show 2 rfl) ?_
  refine x_lcmp (pc := 7) C (d_M_show 3 rfl) ?_
  refine x_if_lt (pc := 8) (tgt := 39) C (d_M_show 4 rfl) (by decide) (fun c13 => ?_) (fun c13 => ?_)
  · rw [if_pos c13] at h
    exact x_sub [0, 1] rfl (v_M_show_39 C hret hmn hex _ _ _ h)
  · rw [if_neg c13] at h
    refine x_iconst (pc := 11) (v := 1) C (by decide) (d_M_show 5 rfl) ?_
    refine x_istore_n (pc := 12) (L2 := [(2, xI (1)), (0, xR 32 (some (x0))), (1, xI (x1))]) C (d_M_show 6 rfl) rfl (by decide) rfl ?_
    exact x_sub [1, 2, 0] rfl (v_M_show_13 C hret hmn hex 100 _ _ _ _ h)
def f_M_write_147  : Nat → Nat → Int64 → Int32 → Int32 → Int32 → Int32 → XS → Option (Int32 × XS)
  | 0, _, _, _, _, _, _, _ => none
  | n + 1, x0, x3, x5, x6, x7, x8, st =>
    if x8 < 0 then
      match f_M_wake x0 st with
      | none => none
      | some (v3, st4) =>
        some (x5, st4)
    else
      match st.2.2.1 32 x0 6 with
      | none => none
      | some i6 =>
        if x_in x6 20 then
          if (st.1 38 i6 x6.toNatClampNeg) = 4 then
            match f_M_show x0 (((x3 >>> (((8 : Int32) * x8).toInt64 &&& 63)).toInt32) &&& (255 : Int32)) st with
            | none => none
            | some (_, st22) =>
              f_M_write_147 n x0 x3 x5 x6 x7 (x8 + (-1)) st22
          else
            match st.2.2.1 32 x0 10 with
            | none => none
            | some i10 =>
              if x_in x7 6 then
                match st.2.2.1 32 x0 11 with
                | none => none
                | some i13 =>
                  if x_in (((32 : Int32) * x7) + (st.1 42 i10 x7.toNatClampNeg)) 192 then
                    match (xsI st 43 i13 (((32 : Int32) * x7) + (st.1 42 i10 x7.toNatClampNeg)).toNatClampNeg (((x3 >>> (((8 : Int32) * x8).toInt64 &&& 63)).toInt32) &&& (255 : Int32))).2.2.1 32 x0 10 with
                    | none => none
                    | some i16 =>
                      if x_in x7 6 then
                        if x_in x7 6 then
                          f_M_write_147 n x0 x3 x5 x6 x7 (x8 + (-1)) (xsI (xsI st 43 i13 (((32 : Int32) * x7) + (st.1 42 i10 x7.toNatClampNeg)).toNatClampNeg (((x3 >>> (((8 : Int32) * x8).toInt64 &&& 63)).toInt32) &&& (255 : Int32))) 42 i16 x7.toNatClampNeg (((xsI st 43 i13 (((32 : Int32) * x7) + (st.1 42 i10 x7.toNatClampNeg)).toNatClampNeg (((x3 >>> (((8 : Int32) * x8).toInt64 &&& 63)).toInt32) &&& (255 : Int32))).1 42 i16 x7.toNatClampNeg) + (1 : Int32)))
                        else none
                      else none
                  else none
              else none
        else none
set_option maxRecDepth 100000 in
set_option maxHeartbeats 4000000 in
theorem v_M_write_147 {p : Program} {l : Launch} {e : Env} {s : State} {m : MethodId} {args : Array Value} {below : List Frame} {meth : Method} {c : Code} {D : va_G} {cA : Nat → ClassId} {g0 : Nat → Nat → Nat} {n0 : Nat → Nat} {r : Int32} {st2 : XS} (C : x_C p e rm_M_write s m args meth c D cA (x_A g0 n0 s.heap.size) M_M_write.2.1 M_M_write.1 M_M_write.2.2.1) (hret : meth.sig.returnType = M_M_write.2.2.2.1) (hmn : meth.name = M_M_write.2.2.2.2.2) (hex : c.exceptionTable.toList.map (fun h => (h.startPc, h.endPc, h.handlerPc, h.catchType)) = M_M_write.2.2.2.2.1)  : ∀ (n : Nat) (x0 : Nat) (x3 : Int64) (x5 : Int32) (x6 : Int32) (x7 : Int32) (x8 : Int32) (st : XS), f_M_write_147 n x0 x3 x5 x6 x7 x8 st = some (r, st2) → x_V p l e rm_M_write s m args below meth c D cA (x_A g0 n0 s.heap.size) M_M_write.2.2.1 g0 n0 (x_MQ D cA g0 n0 below s 0 0 (.inl (some (xI r))) st2) 147 [(0, xR 32 (some (x0))), (3, xL (x3)), (5, xI (x5)), (6, xI (x6)), (7, xI (x7)), (8, xI (x8))] [] st 0 0 := by
  intro n
  induction n with
  | zero => intro x0 x3 x5 x6 x7 x8 st h; cases h
  | succ n ih =>
    intro x0 x3 x5 x6 x7 x8 st h
    rw [f_M_write_147.eq_def] at h
    dsimp only at h
    refine x_iload (pc := 147) C (d_M_write 83 rfl) 5 rfl ?_
    refine x_if_lt (pc := 149) (tgt := 223) C (d_M_write 84 rfl) (by decide) (fun c1 => ?_) (fun c1 => ?_)
    · rw [if_pos c1] at h
      refine x_aload_n (pc := 223) C (d_M_write 126 rfl) rfl 0 rfl ?_
      cases c2 : f_M_wake x0 st with
      | none => rw [c2] at h; cases h
      | some w5 =>
        obtain ⟨v3, st4⟩ := w5
        rw [c2] at h
        dsimp only at h
        refine x_callV (mc := 0) (ms := 0) (pc := 224) (bL := []) (K := []) C cs_M_117 (m_M_wake l c2 : x_M l _ _ _ _ (.inl (some (xI v3))) _ 0 0) (by decide) rfl (Nat.le_of_ble_eq_true rfl) (d_M_write 127 rfl) ?_
        refine x_popv (pc := 227) C rfl (d_M_write 128 rfl) ?_
        refine x_iload (pc := 228) C (d_M_write 129 rfl) 2 rfl ?_
        cases h
        exact x_iret (pc := 230) C hret rfl (Nat.zero_le _) (Nat.zero_le _) (d_M_write 130 rfl)
    · rw [if_neg c1] at h
      refine x_lload_n (pc := 152) C (d_M_write 85 rfl) rfl 1 rfl ?_
      refine x_bipush (pc := 153) (v := 8) C (by decide) (d_M_write 86 rfl) ?_
      refine x_iload (pc := 155) C (d_M_write 87 rfl) 5 rfl ?_
      refine x_imul (pc := 157) C (d_M_write 88 rfl) ?_
      refine x_lshr (pc := 158) C (d_M_write 89 rfl) ?_
      refine x_l2i (pc := 159) C (d_M_write 90 rfl) ?_
      refine x_sipush (pc := 160) (v := 255) C (by decide) (d_M_write 91 rfl) ?_
      refine x_iand (pc := 163) C (d_M_write 92 rfl) ?_
      refine x_istore (pc := 164) (L2 := [(9, xI (((x3 >>> (((8 : Int32) * x8).toInt64 &&& 63)).toInt32) &&& (255 : Int32))), (0, xR 32 (some (x0))), (3, xL (x3)), (5, xI (x5)), (6, xI (x6)), (7, xI (x7)), (8, xI (x8))]) C (d_M_write 93 rfl) (by decide) rfl ?_
      refine x_aload_n (pc := 166) C (d_M_write 94 rfl) rfl 1 rfl ?_
      refine x_getR (pc := 167) (t := 38) C fl_M_26 rfl rfl (d_M_write 95 rfl) ?_
      refine x_iload (pc := 170) C (d_M_write 96 rfl) 4 rfl ?_
      cases c7 : st.2.2.1 32 x0 6 with
      | none => rw [c7] at h; cases h
      | some i6 =>
        rw [c7] at h
        dsimp only at h
        by_cases b8 : x_in x6 20
        · rw [if_pos b8] at h
          refine x_iald (pc := 172) C ar_38 b8 (d_M_write 97 rfl) ?_
          refine x_iconst (pc := 173) (v := 4) C (by decide) (d_M_write 98 rfl) ?_
          refine x_icmp_ne (pc := 174) (tgt := 186) C (d_M_write 99 rfl) (by decide) (fun c9 => ?_) (fun c9 => ?_)
          · rw [if_neg c9] at h
            refine x_aload_n (pc := 186) C (d_M_write 104 rfl) rfl 1 rfl ?_
            refine x_getR (pc := 187) (t := 43) C fl_M_41 rfl rfl (d_M_write 105 rfl) ?_
            refine x_bipush (pc := 190) (v := 32) C (by decide) (d_M_write 106 rfl) ?_
            refine x_iload (pc := 192) C (d_M_write 107 rfl) 5 rfl ?_
            refine x_imul (pc := 194) C (d_M_write 108 rfl) ?_
            refine x_aload_n (pc := 195) C (d_M_write 109 rfl) rfl 1 rfl ?_
            refine x_getR (pc := 196) (t := 42) C fl_M_38 rfl rfl (d_M_write 110 rfl) ?_
            refine x_iload (pc := 199) C (d_M_write 111 rfl) 5 rfl ?_
            cases c11 : st.2.2.1 32 x0 10 with
            | none => rw [c11] at h; cases h
            | some i10 =>
              rw [c11] at h
              dsimp only at h
              by_cases b12 : x_in x7 6
              · rw [if_pos b12] at h
                refine x_iald (pc := 201) C ar_42 b12 (d_M_write 112 rfl) ?_
                refine x_iadd (pc := 202) C (d_M_write 113 rfl) ?_
                refine x_iload (pc := 203) C (d_M_write 114 rfl) 0 rfl ?_
                cases c14 : st.2.2.1 32 x0 11 with
                | none => rw [c14] at h; cases h
                | some i13 =>
                  rw [c14] at h
                  dsimp only at h
                  by_cases b15 : x_in (((32 : Int32) * x7) + (st.1 42 i10 x7.toNatClampNeg)) 192
                  · rw [if_pos b15] at h
                    refine x_iast (pc := 205) C ar_43 b15 (d_M_write 115 rfl) ?_
                    refine x_aload_n (pc := 206) C (d_M_write 116 rfl) rfl 1 rfl ?_
                    refine x_getR (pc := 207) (t := 42) C fl_M_38 rfl rfl (d_M_write 117 rfl) ?_
                    refine x_iload (pc := 210) C (d_M_write 118 rfl) 5 rfl ?_
                    refine x_dup2 (pc := 212) C rfl rfl (d_M_write 119 rfl) ?_
                    cases c17 : (xsI st 43 i13 (((32 : Int32) * x7) + (st.1 42 i10 x7.toNatClampNeg)).toNatClampNeg (((x3 >>> (((8 : Int32) * x8).toInt64 &&& 63)).toInt32) &&& (255 : Int32))).2.2.1 32 x0 10 with
                    | none => rw [c17] at h; cases h
                    | some i16 =>
                      rw [c17] at h
                      dsimp only at h
                      by_cases b18 : x_in x7 6
                      · rw [if_pos b18] at h
                        refine x_iald (pc := 213) C ar_42 b18 (d_M_write 120 rfl) ?_
                        refine x_iconst (pc := 214) (v := 1) C (by decide) (d_M_write 121 rfl) ?_
                        refine x_iadd (pc := 215) C (d_M_write 122 rfl) ?_
                        by_cases b19 : x_in x7 6
                        · rw [if_pos b19] at h
                          refine x_iast (pc := 216) C ar_42 b19 (d_M_write 123 rfl) ?_
                          refine x_iinc (pc := 217) (v := x8 + (-1)) (L2 := [(8, xI (x8 + (-1))), (9, xI (((x3 >>> (((8 : Int32) * x8).toInt64 &&& 63)).toInt32) &&& (255 : Int32))), (0, xR 32 (some (x0))), (3, xL (x3)), (5, xI (x5)), (6, xI (x6)), (7, xI (x7))]) C (d_M_write 124 rfl) 6 rfl rfl (by decide) rfl ?_
                          refine x_goto (pc := 220) (tgt := 147) C (d_M_write 125 rfl) (by decide) ?_
                          exact x_sub [2, 3, 4, 5, 6, 0] rfl (ih _ _ _ _ _ _ _ h)
                        · rw [if_neg b19] at h; cases h
                      · rw [if_neg b18] at h; cases h
                  · rw [if_neg b15] at h; cases h
              · rw [if_neg b12] at h; cases h
          · rw [if_pos c9] at h
            refine x_aload_n (pc := 177) C (d_M_write 100 rfl) rfl 1 rfl ?_
            refine x_iload (pc := 178) C (d_M_write 101 rfl) 0 rfl ?_
            cases c20 : f_M_show x0 (((x3 >>> (((8 : Int32) * x8).toInt64 &&& 63)).toInt32) &&& (255 : Int32)) st with
            | none => rw [c20] at h; cases h
            | some w23 =>
              obtain ⟨v21, st22⟩ := w23
              rw [c20] at h
              dsimp only at h
              refine x_callV (mc := 0) (ms := 0) (pc := 180) (bL := [xI (((x3 >>> (((8 : Int32) * x8).toInt64 &&& 63)).toInt32) &&& (255 : Int32))]) (K := []) C cs_M_171 (m_M_show l c20 : x_M l _ _ _ _ (.inl none) _ 0 0) (by decide) rfl (Nat.le_of_ble_eq_true rfl) (d_M_write 102 rfl) ?_
              refine x_goto (pc := 183) (tgt := 217) C (d_M_write 103 rfl) (by decide) ?_
              refine x_iinc (pc := 217) (v := x8 + (-1)) (L2 := [(8, xI (x8 + (-1))), (9, xI (((x3 >>> (((8 : Int32) * x8).toInt64 &&& 63)).toInt32) &&& (255 : Int32))), (0, xR 32 (some (x0))), (3, xL (x3)), (5, xI (x5)), (6, xI (x6)), (7, xI (x7))]) C (d_M_write 124 rfl) 6 rfl rfl (by decide) rfl ?_
              refine x_goto (pc := 220) (tgt := 147) C (d_M_write 125 rfl) (by decide) ?_
              exact x_sub [2, 3, 4, 5, 6, 0] rfl (ih _ _ _ _ _ _ _ h)
        · rw [if_neg b8] at h; cases h
def f_M_write_98  (x0 : Nat) (x1 : Int32) (x2 : Int32) (x3 : Int64) (x5 : Int32) (x6 : Int32) (x7 : Int32) (st : XS) : Option (Int32 × XS) :=
  match st.2.2.1 32 x0 6 with
  | none => none
  | some i24 =>
    if x_in x6 20 then
      if (st.1 38 i24 x6.toNatClampNeg) = 3 then
        match f_M_writeFile x0 x6 x3 x5 st with
        | none => none
        | some (v37, st38) =>
          some (v37, st38)
      else
        match f_M_waits x0 x6 0 x5 st with
        | none => none
        | some v29 =>
          if v29 = 0 then
            f_M_write_147 100 x0 x3 x5 x6 x7 (x5 - (1 : Int32)) st
          else
            match f_M_waitFor x0 x1 x2 x5 3 st with
            | none => none
            | some (v32, st33) =>
              some (v32, st33)
    else none
set_option maxRecDepth 100000 in
set_option maxHeartbeats 4000000 in
theorem v_M_write_98 {p : Program} {l : Launch} {e : Env} {s : State} {m : MethodId} {args : Array Value} {below : List Frame} {meth : Method} {c : Code} {D : va_G} {cA : Nat → ClassId} {g0 : Nat → Nat → Nat} {n0 : Nat → Nat} {r : Int32} {st2 : XS} (C : x_C p e rm_M_write s m args meth c D cA (x_A g0 n0 s.heap.size) M_M_write.2.1 M_M_write.1 M_M_write.2.2.1) (hret : meth.sig.returnType = M_M_write.2.2.2.1) (hmn : meth.name = M_M_write.2.2.2.2.2) (hex : c.exceptionTable.toList.map (fun h => (h.startPc, h.endPc, h.handlerPc, h.catchType)) = M_M_write.2.2.2.2.1)  (x0 : Nat) (x1 : Int32) (x2 : Int32) (x3 : Int64) (x5 : Int32) (x6 : Int32) (x7 : Int32) (st : XS) (h : f_M_write_98 x0 x1 x2 x3 x5 x6 x7 st = some (r, st2)) : x_V p l e rm_M_write s m args below meth c D cA (x_A g0 n0 s.heap.size) M_M_write.2.2.1 g0 n0 (x_MQ D cA g0 n0 below s 0 0 (.inl (some (xI r))) st2) 98 [(0, xR 32 (some (x0))), (1, xI (x1)), (2, xI (x2)), (3, xL (x3)), (5, xI (x5)), (6, xI (x6)), (7, xI (x7))] [] st 0 0 := by
  unfold f_M_write_98 at h
  refine x_aload_n (pc := 98) C (d_M_write 54 rfl) rfl 0 rfl ?_
  refine x_getR (pc := 99) (t := 38) C fl_M_26 rfl rfl (d_M_write 55 rfl) ?_
  refine x_iload (pc := 102) C (d_M_write 56 rfl) 5 rfl ?_
  cases c25 : st.2.2.1 32 x0 6 with
  | none => rw [c25] at h; cases h
  | some i24 =>
    rw [c25] at h
    dsimp only at h
    by_cases b26 : x_in x6 20
    · rw [if_pos b26] at h
      refine x_iald (pc := 104) C ar_38 b26 (d_M_write 57 rfl) ?_
      refine x_iconst (pc := 105) (v := 3) C (by decide) (d_M_write 58 rfl) ?_
      refine x_icmp_ne (pc := 106) (tgt := 119) C (d_M_write 59 rfl) (by decide) (fun c27 => ?_) (fun c27 => ?_)
      · rw [if_neg c27] at h
        refine x_aload_n (pc := 119) C (d_M_write 66 rfl) rfl 0 rfl ?_
        refine x_iload (pc := 120) C (d_M_write 67 rfl) 5 rfl ?_
        refine x_iconst (pc := 122) (v := 0) C (by decide) (d_M_write 68 rfl) ?_
        refine x_iload (pc := 123) C (d_M_write 69 rfl) 4 rfl ?_
        cases c28 : f_M_waits x0 x6 0 x5 st with
        | none => rw [c28] at h; cases h
        | some v29 =>
          rw [c28] at h
          dsimp only at h
          refine x_callV (mc := 0) (ms := 0) (pc := 125) (bL := [xI (x6), xI (0), xI (x5)]) (K := []) C cs_M_123 (m_M_waits l c28 : x_M l _ _ _ _ (.inl (some (xI v29))) _ 0 0) (by decide) rfl (Nat.le_of_ble_eq_true rfl) (d_M_write 70 rfl) ?_
          refine x_if_eq (pc := 128) (tgt := 141) C (d_M_write 71 rfl) (by decide) (fun c30 => ?_) (fun c30 => ?_)
          · rw [if_pos c30] at h
            refine x_iload (pc := 141) C (d_M_write 79 rfl) 4 rfl ?_
            refine x_iconst (pc := 143) (v := 1) C (by decide) (d_M_write 80 rfl) ?_
            refine x_isub (pc := 144) C (d_M_write 81 rfl) ?_
            refine x_istore (pc := 145) (L2 := [(8, xI (x5 - (1 : Int32))), (0, xR 32 (some (x0))), (1, xI (x1)), (2, xI (x2)), (3, xL (x3)), (5, xI (x5)), (6, xI (x6)), (7, xI (x7))]) C (d_M_write 82 rfl) (by decide) rfl ?_
            exact x_sub [1, 4, 5, 6, 7, 0] rfl (v_M_write_147 C hret hmn hex 100 _ _ _ _ _ _ _ h)
          · rw [if_neg c30] at h
            refine x_aload_n (pc := 131) C (d_M_write 72 rfl) rfl 0 rfl ?_
            refine x_iload_n (pc := 132) C (d_M_write 73 rfl) rfl 1 rfl ?_
            refine x_iload_n (pc := 133) C (d_M_write 74 rfl) rfl 2 rfl ?_
            refine x_iload (pc := 134) C (d_M_write 75 rfl) 4 rfl ?_
            refine x_iconst (pc := 136) (v := 3) C (by decide) (d_M_write 76 rfl) ?_
            cases c31 : f_M_waitFor x0 x1 x2 x5 3 st with
            | none => rw [c31] at h; cases h
            | some w34 =>
              obtain ⟨v32, st33⟩ := w34
              rw [c31] at h
              dsimp only at h
              refine x_callV (mc := 0) (ms := 0) (pc := 137) (bL := [xI (x1), xI (x2), xI (x5), xI (3)]) (K := []) C cs_M_148 (m_M_waitFor l c31 : x_M l _ _ _ _ (.inl (some (xI v32))) _ 0 0) (by decide) rfl (Nat.le_of_ble_eq_true rfl) (d_M_write 77 rfl) ?_
              cases h
              exact x_iret (pc := 140) C hret rfl (Nat.zero_le _) (Nat.zero_le _) (d_M_write 78 rfl)
      · rw [if_pos c27] at h
        refine x_aload_n (pc := 109) C (d_M_write 60 rfl) rfl 0 rfl ?_
        refine x_iload (pc := 110) C (d_M_write 61 rfl) 5 rfl ?_
        refine x_lload_n (pc := 112) C (d_M_write 62 rfl) rfl 3 rfl ?_
        refine x_iload (pc := 113) C (d_M_write 63 rfl) 4 rfl ?_
        cases c36 : f_M_writeFile x0 x6 x3 x5 st with
        | none => rw [c36] at h; cases h
        | some w39 =>
          obtain ⟨v37, st38⟩ := w39
          rw [c36] at h
          dsimp only at h
          refine x_callV (mc := 0) (ms := 0) (pc := 115) (bL := [xI (x6), xL (x3), xI (x5)]) (K := []) C cs_M_167 (m_M_writeFile l c36 : x_M l _ _ _ _ (.inl (some (xI v37))) _ 0 0) (by decide) rfl (Nat.le_of_ble_eq_true rfl) (d_M_write 64 rfl) ?_
          cases h
          exact x_iret (pc := 118) C hret rfl (Nat.zero_le _) (Nat.zero_le _) (d_M_write 65 rfl)
    · rw [if_neg b26] at h; cases h
def f_M_write_30  (x0 : Nat) (x1 : Int32) (x2 : Int32) (x3 : Int64) (x5 : Int32) (s0 : Int32) (s1 : Int32) (s2 : Option Nat) (st : XS) : Option (Int32 × XS) :=
  match s2 with
  | none => none
  | some i40 =>
    match f_M_fails i40 s1 s0 st with
    | none => none
    | some (v43, st44) =>
      if v43 = 0 then
        match f_M_openingOf x0 x1 x2 st44 with
        | none => none
        | some v47 =>
          if v47 < 0 then
            some ((-1), st44)
          else
            match st44.2.2.1 32 x0 9 with
            | none => none
            | some i49 =>
              if x_in v47 20 then
                if ((st44.1 41 i49 v47.toNatClampNeg) &&& (2 : Int32)) = 0 then
                  some ((-1), st44)
                else
                  match st44.2.2.1 32 x0 7 with
                  | none => none
                  | some i53 =>
                    if x_in v47 20 then
                      match st44.2.2.1 32 x0 6 with
                      | none => none
                      | some i56 =>
                        if x_in v47 20 then
                          if (st44.1 38 i56 v47.toNatClampNeg) = 2 then
                            match f_M_openings x0 1 (st44.1 39 i53 v47.toNatClampNeg) st44 with
                            | none => none
                            | some v61 =>
                              if v61 = 0 then
                                some ((-5), st44)
                              else
                                f_M_write_98 x0 x1 x2 x3 x5 v47 (st44.1 39 i53 v47.toNatClampNeg) st44
                          else
                            f_M_write_98 x0 x1 x2 x3 x5 v47 (st44.1 39 i53 v47.toNatClampNeg) st44
                        else none
                    else none
              else none
      else
        some (0, st44)
set_option maxRecDepth 100000 in
set_option maxHeartbeats 4000000 in
theorem v_M_write_30 {p : Program} {l : Launch} {e : Env} {s : State} {m : MethodId} {args : Array Value} {below : List Frame} {meth : Method} {c : Code} {D : va_G} {cA : Nat → ClassId} {g0 : Nat → Nat → Nat} {n0 : Nat → Nat} {r : Int32} {st2 : XS} (C : x_C p e rm_M_write s m args meth c D cA (x_A g0 n0 s.heap.size) M_M_write.2.1 M_M_write.1 M_M_write.2.2.1) (hret : meth.sig.returnType = M_M_write.2.2.2.1) (hmn : meth.name = M_M_write.2.2.2.2.2) (hex : c.exceptionTable.toList.map (fun h => (h.startPc, h.endPc, h.handlerPc, h.catchType)) = M_M_write.2.2.2.2.1)  (x0 : Nat) (x1 : Int32) (x2 : Int32) (x3 : Int64) (x5 : Int32) (s0 : Int32) (s1 : Int32) (s2 : Option Nat) (st : XS) (h : f_M_write_30 x0 x1 x2 x3 x5 s0 s1 s2 st = some (r, st2)) : x_V p l e rm_M_write s m args below meth c D cA (x_A g0 n0 s.heap.size) M_M_write.2.2.1 g0 n0 (x_MQ D cA g0 n0 below s 0 0 (.inl (some (xI r))) st2) 30 [(0, xR 32 (some (x0))), (1, xI (x1)), (2, xI (x2)), (3, xL (x3)), (5, xI (x5))] [xI (s0), xI (s1), xR 32 (s2)] st 0 0 := by
  unfold f_M_write_30 at h
  cases c41 : s2 with
  | none => rw [c41] at h; cases h
  | some i40 =>
    rw [c41] at h
    dsimp only at h
    cases c42 : f_M_fails i40 s1 s0 st with
    | none => rw [c42] at h; cases h
    | some w65 =>
      obtain ⟨v43, st44⟩ := w65
      rw [c42] at h
      dsimp only at h
      refine x_callV (mc := 0) (ms := 0) (pc := 30) (bL := [xI (s1), xI (s0)]) (K := []) C cs_M_107 (m_M_fails l c42 : x_M l _ _ _ _ (.inl (some (xI v43))) _ 0 0) (by decide) rfl (Nat.le_of_ble_eq_true rfl) (d_M_write 16 rfl) ?_
      refine x_if_eq (pc := 33) (tgt := 38) C (d_M_write 17 rfl) (by decide) (fun c45 => ?_) (fun c45 => ?_)
      · rw [if_pos c45] at h
        refine x_aload_n (pc := 38) C (d_M_write 20 rfl) rfl 0 rfl ?_
        refine x_iload_n (pc := 39) C (d_M_write 21 rfl) rfl 1 rfl ?_
        refine x_iload_n (pc := 40) C (d_M_write 22 rfl) rfl 2 rfl ?_
        cases c46 : f_M_openingOf x0 x1 x2 st44 with
        | none => rw [c46] at h; cases h
        | some v47 =>
          rw [c46] at h
          dsimp only at h
          refine x_callV (mc := 0) (ms := 0) (pc := 41) (bL := [xI (x1), xI (x2)]) (K := []) C cs_M_133 (m_M_openingOf l c46 : x_M l _ _ _ _ (.inl (some (xI v47))) _ 0 0) (by decide) rfl (Nat.le_of_ble_eq_true rfl) (d_M_write 23 rfl) ?_
          refine x_istore (pc := 44) (L2 := [(6, xI (v47)), (0, xR 32 (some (x0))), (1, xI (x1)), (2, xI (x2)), (3, xL (x3)), (5, xI (x5))]) C (d_M_write 24 rfl) (by decide) rfl ?_
          refine x_iload (pc := 46) C (d_M_write 25 rfl) 0 rfl ?_
          refine x_if_lt (pc := 48) (tgt := 63) C (d_M_write 26 rfl) (by decide) (fun c48 => ?_) (fun c48 => ?_)
          · rw [if_pos c48] at h
            refine x_iconst (pc := 63) (v := (-1)) C (by decide) (d_M_write 34 rfl) ?_
            cases h
            exact x_iret (pc := 64) C hret rfl (Nat.zero_le _) (Nat.zero_le _) (d_M_write 35 rfl)
          · rw [if_neg c48] at h
            refine x_aload_n (pc := 51) C (d_M_write 27 rfl) rfl 1 rfl ?_
            refine x_getR (pc := 52) (t := 41) C fl_M_35 rfl rfl (d_M_write 28 rfl) ?_
            refine x_iload (pc := 55) C (d_M_write 29 rfl) 0 rfl ?_
            cases c50 : st44.2.2.1 32 x0 9 with
            | none => rw [c50] at h; cases h
            | some i49 =>
              rw [c50] at h
              dsimp only at h
              by_cases b51 : x_in v47 20
              · rw [if_pos b51] at h
                refine x_iald (pc := 57) C ar_41 b51 (d_M_write 30 rfl) ?_
                refine x_iconst (pc := 58) (v := 2) C (by decide) (d_M_write 31 rfl) ?_
                refine x_iand (pc := 59) C (d_M_write 32 rfl) ?_
                refine x_if_ne (pc := 60) (tgt := 65) C (d_M_write 33 rfl) (by decide) (fun c52 => ?_) (fun c52 => ?_)
                · rw [if_neg c52] at h
                  refine x_aload_n (pc := 65) C (d_M_write 36 rfl) rfl 1 rfl ?_
                  refine x_getR (pc := 66) (t := 39) C fl_M_29 rfl rfl (d_M_write 37 rfl) ?_
                  refine x_iload (pc := 69) C (d_M_write 38 rfl) 0 rfl ?_
                  cases c54 : st44.2.2.1 32 x0 7 with
                  | none => rw [c54] at h; cases h
                  | some i53 =>
                    rw [c54] at h
                    dsimp only at h
                    by_cases b55 : x_in v47 20
                    · rw [if_pos b55] at h
                      refine x_iald (pc := 71) C ar_39 b55 (d_M_write 39 rfl) ?_
                      refine x_istore (pc := 72) (L2 := [(7, xI (st44.1 39 i53 v47.toNatClampNeg)), (6, xI (v47)), (0, xR 32 (some (x0))), (1, xI (x1)), (2, xI (x2)), (3, xL (x3)), (5, xI (x5))]) C (d_M_write 40 rfl) (by decide) rfl ?_
                      refine x_aload_n (pc := 74) C (d_M_write 41 rfl) rfl 2 rfl ?_
                      refine x_getR (pc := 75) (t := 38) C fl_M_26 rfl rfl (d_M_write 42 rfl) ?_
                      refine x_iload (pc := 78) C (d_M_write 43 rfl) 1 rfl ?_
                      cases c57 : st44.2.2.1 32 x0 6 with
                      | none => rw [c57] at h; cases h
                      | some i56 =>
                        rw [c57] at h
                        dsimp only at h
                        by_cases b58 : x_in v47 20
                        · rw [if_pos b58] at h
                          refine x_iald (pc := 80) C ar_38 b58 (d_M_write 44 rfl) ?_
                          refine x_iconst (pc := 81) (v := 2) C (by decide) (d_M_write 45 rfl) ?_
                          refine x_icmp_ne (pc := 82) (tgt := 98) C (d_M_write 46 rfl) (by decide) (fun c59 => ?_) (fun c59 => ?_)
                          · rw [if_neg c59] at h
                            exact x_sub [2, 3, 4, 5, 6, 1, 0] rfl (v_M_write_98 C hret hmn hex _ _ _ _ _ _ _ _ h)
                          · rw [if_pos c59] at h
                            refine x_aload_n (pc := 85) C (d_M_write 47 rfl) rfl 2 rfl ?_
                            refine x_iconst (pc := 86) (v := 1) C (by decide) (d_M_write 48 rfl) ?_
                            refine x_iload (pc := 87) C (d_M_write 49 rfl) 0 rfl ?_
                            cases c60 : f_M_openings x0 1 (st44.1 39 i53 v47.toNatClampNeg) st44 with
                            | none => rw [c60] at h; cases h
                            | some v61 =>
                              rw [c60] at h
                              dsimp only at h
                              refine x_callV (mc := 0) (ms := 0) (pc := 89) (bL := [xI (1), xI (st44.1 39 i53 v47.toNatClampNeg)]) (K := []) C cs_M_78 (m_M_openings l c60 : x_M l _ _ _ _ (.inl (some (xI v61))) _ 0 0) (by decide) rfl (Nat.le_of_ble_eq_true rfl) (d_M_write 50 rfl) ?_
                              refine x_if_ne (pc := 92) (tgt := 98) C (d_M_write 51 rfl) (by decide) (fun c62 => ?_) (fun c62 => ?_)
                              · rw [if_neg c62] at h
                                exact x_sub [2, 3, 4, 5, 6, 1, 0] rfl (v_M_write_98 C hret hmn hex _ _ _ _ _ _ _ _ h)
                              · rw [if_pos c62] at h
                                refine x_bipush (pc := 95) (v := (-5)) C (by decide) (d_M_write 52 rfl) ?_
                                cases h
                                exact x_iret (pc := 97) C hret rfl (Nat.zero_le _) (Nat.zero_le _) (d_M_write 53 rfl)
                        · rw [if_neg b58] at h; cases h
                    · rw [if_neg b55] at h; cases h
                · rw [if_pos c52] at h
                  refine x_iconst (pc := 63) (v := (-1)) C (by decide) (d_M_write 34 rfl) ?_
                  cases h
                  exact x_iret (pc := 64) C hret rfl (Nat.zero_le _) (Nat.zero_le _) (d_M_write 35 rfl)
              · rw [if_neg b51] at h; cases h
      · rw [if_neg c45] at h
        refine x_iconst (pc := 36) (v := 0) C (by decide) (d_M_write 18 rfl) ?_
        cases h
        exact x_iret (pc := 37) C hret rfl (Nat.zero_le _) (Nat.zero_le _) (d_M_write 19 rfl)
def f_M_write (x0 : Nat) (x1 : Int32) (x2 : Int32) (x3 : Int64) (x5 : Int32) (st : XS) : Option (Int32 × XS) :=
  match f_M_isReady x0 x1 st with
  | none => none
  | some v67 =>
    if v67 = 0 then
      match f_M_in x5 0 8 st with
      | none => none
      | some v74 =>
        if v74 = 0 then
          f_M_write_30 x0 x1 x2 x3 x5 1 1 (some (x0)) st
        else
          f_M_write_30 x0 x1 x2 x3 x5 0 1 (some (x0)) st
    else
      match f_M_in x5 0 8 st with
      | none => none
      | some v70 =>
        if v70 = 0 then
          f_M_write_30 x0 x1 x2 x3 x5 1 0 (some (x0)) st
        else
          f_M_write_30 x0 x1 x2 x3 x5 0 0 (some (x0)) st
set_option maxRecDepth 100000 in
set_option maxHeartbeats 4000000 in
theorem m_M_write (l : Launch) {x0 : Nat} {x1 : Int32} {x2 : Int32} {x3 : Int64} {x5 : Int32} {st : XS} {r : Int32} {st2 : XS} (h : f_M_write x0 x1 x2 x3 x5 st = some (r, st2)) : x_M l M_M_write rm_M_write [xR 32 (some (x0)), xI (x1), xI (x2), xL (x3), xI (x5)] st (.inl (some (xI r))) st2 0 0 := by
  refine x_enter (Nat.le_of_ble_eq_true rfl) ?_
  intro p e s m below meth c D cA g args B C
  have hret := B.2.2.2.2.2.2.2.2.1
  have hmn := B.2.2.2.2.2.2.2.1
  have hex := B.2.2.2.2.2.2.2.2.2.1
  unfold f_M_write at h
  refine x_aload_n (pc := 0) C (d_M_write 0 rfl) rfl 0 rfl ?_
  refine x_aload_n (pc := 1) C (d_M_write 1 rfl) rfl 0 rfl ?_
  refine x_iload_n (pc := 2) C (d_M_write 2 rfl) rfl 1 rfl ?_
  cases c66 : f_M_isReady x0 x1 st with
  | none => rw [c66] at h; cases h
  | some v67 =>
    rw [c66] at h
    dsimp only at h
    refine x_callV (mc := 0) (ms := 0) (pc := 3) (bL := [xI (x1)]) (K := [xR 32 (some (x0))]) C cs_M_103 (m_M_isReady l c66 : x_M l _ _ _ _ (.inl (some (xI v67))) _ 0 0) (by decide) rfl (Nat.le_of_ble_eq_true rfl) (d_M_write 3 rfl) ?_
    refine x_if_ne (pc := 6) (tgt := 13) C (d_M_write 4 rfl) (by decide) (fun c68 => ?_) (fun c68 => ?_)
    · rw [if_neg c68] at h
      refine x_iconst (pc := 13) (v := 0) C (by decide) (d_M_write 7 rfl) ?_
      refine x_iload (pc := 14) C (d_M_write 8 rfl) 4 rfl ?_
      refine x_iconst (pc := 16) (v := 0) C (by decide) (d_M_write 9 rfl) ?_
      refine x_bipush (pc := 17) (v := 8) C (by decide) (d_M_write 10 rfl) ?_
      cases c69 : f_M_in x5 0 8 st with
      | none => rw [c69] at h; cases h
      | some v70 =>
        rw [c69] at h
        dsimp only at h
        refine x_callS (mc := 0) (ms := 0) (pc := 19) (aL := [xI (x5), xI (0), xI (8)]) (K := [xI (0), xR 32 (some (x0))]) C cs_M_70 (m_M_in l c69 : x_M l _ _ _ _ (.inl (some (xI v70))) _ 0 0) (by decide) rfl (Nat.le_of_ble_eq_true rfl) (d_M_write 11 rfl) ?_
        refine x_if_ne (pc := 22) (tgt := 29) C (d_M_write 12 rfl) (by decide) (fun c71 => ?_) (fun c71 => ?_)
        · rw [if_neg c71] at h
          refine x_iconst (pc := 29) (v := 0) C (by decide) (d_M_write 15 rfl) ?_
          exact x_sub [0, 1, 2, 3, 4] rfl (v_M_write_30 C hret hmn hex _ _ _ _ _ _ _ _ _ h)
        · rw [if_pos c71] at h
          refine x_iconst (pc := 25) (v := 1) C (by decide) (d_M_write 13 rfl) ?_
          refine x_goto (pc := 26) (tgt := 30) C (d_M_write 14 rfl) (by decide) ?_
          exact x_sub [0, 1, 2, 3, 4] rfl (v_M_write_30 C hret hmn hex _ _ _ _ _ _ _ _ _ h)
    · rw [if_pos c68] at h
      refine x_iconst (pc := 9) (v := 1) C (by decide) (d_M_write 5 rfl) ?_
      refine x_goto (pc := 10) (tgt := 14) C (d_M_write 6 rfl) (by decide) ?_
      refine x_iload (pc := 14) C (d_M_write 8 rfl) 4 rfl ?_
      refine x_iconst (pc := 16) (v := 0) C (by decide) (d_M_write 9 rfl) ?_
      refine x_bipush (pc := 17) (v := 8) C (by decide) (d_M_write 10 rfl) ?_
      cases c73 : f_M_in x5 0 8 st with
      | none => rw [c73] at h; cases h
      | some v74 =>
        rw [c73] at h
        dsimp only at h
        refine x_callS (mc := 0) (ms := 0) (pc := 19) (aL := [xI (x5), xI (0), xI (8)]) (K := [xI (1), xR 32 (some (x0))]) C cs_M_70 (m_M_in l c73 : x_M l _ _ _ _ (.inl (some (xI v74))) _ 0 0) (by decide) rfl (Nat.le_of_ble_eq_true rfl) (d_M_write 11 rfl) ?_
        refine x_if_ne (pc := 22) (tgt := 29) C (d_M_write 12 rfl) (by decide) (fun c75 => ?_) (fun c75 => ?_)
        · rw [if_neg c75] at h
          refine x_iconst (pc := 29) (v := 0) C (by decide) (d_M_write 15 rfl) ?_
          exact x_sub [0, 1, 2, 3, 4] rfl (v_M_write_30 C hret hmn hex _ _ _ _ _ _ _ _ _ h)
        · rw [if_pos c75] at h
          refine x_iconst (pc := 25) (v := 1) C (by decide) (d_M_write 13 rfl) ?_
          refine x_goto (pc := 26) (tgt := 30) C (d_M_write 14 rfl) (by decide) ?_
          exact x_sub [0, 1, 2, 3, 4] rfl (v_M_write_30 C hret hmn hex _ _ _ _ _ _ _ _ _ h)
def f_M_close_14  (x0 : Nat) (x1 : Int32) (x2 : Int32) (s0 : Int32) (s1 : Option Nat) (st : XS) : Option (Int32 × XS) :=
  match s1 with
  | none => none
  | some i1 =>
    match f_M_fails i1 s0 0 st with
    | none => none
    | some (v4, st5) =>
      if v4 = 0 then
        match f_M_openingOf x0 x1 x2 st5 with
        | none => none
        | some v8 =>
          if 0 ≤ v8 then
            match st5.2.2.1 32 x0 4 with
            | none => none
            | some i10 =>
              if x_in (((8 : Int32) * x1) + x2) 64 then
                match f_M_sweep x0 (xsI st5 36 i10 (((8 : Int32) * x1) + x2).toNatClampNeg ((-1))) with
                | none => none
                | some (_, st15) =>
                  match f_M_wake x0 st15 with
                  | none => none
                  | some (v17, st18) =>
                    some (0, st18)
              else none
          else
            some ((-1), st5)
      else
        some (0, st5)
set_option maxRecDepth 100000 in
set_option maxHeartbeats 4000000 in
theorem v_M_close_14 {p : Program} {l : Launch} {e : Env} {s : State} {m : MethodId} {args : Array Value} {below : List Frame} {meth : Method} {c : Code} {D : va_G} {cA : Nat → ClassId} {g0 : Nat → Nat → Nat} {n0 : Nat → Nat} {r : Int32} {st2 : XS} (C : x_C p e rm_M_close s m args meth c D cA (x_A g0 n0 s.heap.size) M_M_close.2.1 M_M_close.1 M_M_close.2.2.1) (hret : meth.sig.returnType = M_M_close.2.2.2.1) (hmn : meth.name = M_M_close.2.2.2.2.2) (hex : c.exceptionTable.toList.map (fun h => (h.startPc, h.endPc, h.handlerPc, h.catchType)) = M_M_close.2.2.2.2.1)  (x0 : Nat) (x1 : Int32) (x2 : Int32) (s0 : Int32) (s1 : Option Nat) (st : XS) (h : f_M_close_14 x0 x1 x2 s0 s1 st = some (r, st2)) : x_V p l e rm_M_close s m args below meth c D cA (x_A g0 n0 s.heap.size) M_M_close.2.2.1 g0 n0 (x_MQ D cA g0 n0 below s 0 0 (.inl (some (xI r))) st2) 14 [(0, xR 32 (some (x0))), (1, xI (x1)), (2, xI (x2))] [xI (s0), xR 32 (s1)] st 0 0 := by
  unfold f_M_close_14 at h
  refine x_iconst (pc := 14) (v := 0) C (by decide) (d_M_close 8 rfl) ?_
  cases c2 : s1 with
  | none => rw [c2] at h; cases h
  | some i1 =>
    rw [c2] at h
    dsimp only at h
    cases c3 : f_M_fails i1 s0 0 st with
    | none => rw [c3] at h; cases h
    | some w22 =>
      obtain ⟨v4, st5⟩ := w22
      rw [c3] at h
      dsimp only at h
      refine x_callV (mc := 0) (ms := 0) (pc := 15) (bL := [xI (s0), xI (0)]) (K := []) C cs_M_107 (m_M_fails l c3 : x_M l _ _ _ _ (.inl (some (xI v4))) _ 0 0) (by decide) rfl (Nat.le_of_ble_eq_true rfl) (d_M_close 9 rfl) ?_
      refine x_if_eq (pc := 18) (tgt := 23) C (d_M_close 10 rfl) (by decide) (fun c6 => ?_) (fun c6 => ?_)
      · rw [if_pos c6] at h
        refine x_aload_n (pc := 23) C (d_M_close 13 rfl) rfl 0 rfl ?_
        refine x_iload_n (pc := 24) C (d_M_close 14 rfl) rfl 1 rfl ?_
        refine x_iload_n (pc := 25) C (d_M_close 15 rfl) rfl 2 rfl ?_
        cases c7 : f_M_openingOf x0 x1 x2 st5 with
        | none => rw [c7] at h; cases h
        | some v8 =>
          rw [c7] at h
          dsimp only at h
          refine x_callV (mc := 0) (ms := 0) (pc := 26) (bL := [xI (x1), xI (x2)]) (K := []) C cs_M_133 (m_M_openingOf l c7 : x_M l _ _ _ _ (.inl (some (xI v8))) _ 0 0) (by decide) rfl (Nat.le_of_ble_eq_true rfl) (d_M_close 16 rfl) ?_
          refine x_if_ge (pc := 29) (tgt := 34) C (d_M_close 17 rfl) (by decide) (fun c9 => ?_) (fun c9 => ?_)
          · rw [if_pos c9] at h
            refine x_aload_n (pc := 34) C (d_M_close 20 rfl) rfl 0 rfl ?_
            refine x_getR (pc := 35) (t := 36) C fl_M_19 rfl rfl (d_M_close 21 rfl) ?_
            refine x_bipush (pc := 38) (v := 8) C (by decide) (d_M_close 22 rfl) ?_
            refine x_iload_n (pc := 40) C (d_M_close 23 rfl) rfl 1 rfl ?_
            refine x_imul (pc := 41) C (d_M_close 24 rfl) ?_
            refine x_iload_n (pc := 42) C (d_M_close 25 rfl) rfl 2 rfl ?_
            refine x_iadd (pc := 43) C (d_M_close 26 rfl) ?_
            refine x_iconst (pc := 44) (v := (-1)) C (by decide) (d_M_close 27 rfl) ?_
            cases c11 : st5.2.2.1 32 x0 4 with
            | none => rw [c11] at h; cases h
            | some i10 =>
              rw [c11] at h
              dsimp only at h
              by_cases b12 : x_in (((8 : Int32) * x1) + x2) 64
              · rw [if_pos b12] at h
                refine x_iast (pc := 45) C ar_36 b12 (d_M_close 28 rfl) ?_
                refine x_aload_n (pc := 46) C (d_M_close 29 rfl) rfl 0 rfl ?_
                cases c13 : f_M_sweep x0 (xsI st5 36 i10 (((8 : Int32) * x1) + x2).toNatClampNeg ((-1))) with
                | none => rw [c13] at h; cases h
                | some w20 =>
                  obtain ⟨v14, st15⟩ := w20
                  rw [c13] at h
                  dsimp only at h
                  refine x_callV (mc := 0) (ms := 0) (pc := 47) (bL := []) (K := []) C cs_M_114 (m_M_sweep l c13 : x_M l _ _ _ _ (.inl none) _ 0 0) (by decide) rfl (Nat.le_of_ble_eq_true rfl) (d_M_close 30 rfl) ?_
                  refine x_aload_n (pc := 50) C (d_M_close 31 rfl) rfl 0 rfl ?_
                  cases c16 : f_M_wake x0 st15 with
                  | none => rw [c16] at h; cases h
                  | some w19 =>
                    obtain ⟨v17, st18⟩ := w19
                    rw [c16] at h
                    dsimp only at h
                    refine x_callV (mc := 0) (ms := 0) (pc := 51) (bL := []) (K := []) C cs_M_117 (m_M_wake l c16 : x_M l _ _ _ _ (.inl (some (xI v17))) _ 0 0) (by decide) rfl (Nat.le_of_ble_eq_true rfl) (d_M_close 32 rfl) ?_
                    refine x_popv (pc := 54) C rfl (d_M_close 33 rfl) ?_
                    refine x_iconst (pc := 55) (v := 0) C (by decide) (d_M_close 34 rfl) ?_
                    cases h
                    exact x_iret (pc := 56) C hret rfl (Nat.zero_le _) (Nat.zero_le _) (d_M_close 35 rfl)
              · rw [if_neg b12] at h; cases h
          · rw [if_neg c9] at h
            refine x_iconst (pc := 32) (v := (-1)) C (by decide) (d_M_close 18 rfl) ?_
            cases h
            exact x_iret (pc := 33) C hret rfl (Nat.zero_le _) (Nat.zero_le _) (d_M_close 19 rfl)
      · rw [if_neg c6] at h
        refine x_iconst (pc := 21) (v := 0) C (by decide) (d_M_close 11 rfl) ?_
        cases h
        exact x_iret (pc := 22) C hret rfl (Nat.zero_le _) (Nat.zero_le _) (d_M_close 12 rfl)
def f_M_close (x0 : Nat) (x1 : Int32) (x2 : Int32) (st : XS) : Option (Int32 × XS) :=
  match f_M_isReady x0 x1 st with
  | none => none
  | some v24 =>
    if v24 = 0 then
      f_M_close_14 x0 x1 x2 1 (some (x0)) st
    else
      f_M_close_14 x0 x1 x2 0 (some (x0)) st
set_option maxRecDepth 100000 in
set_option maxHeartbeats 4000000 in
theorem m_M_close (l : Launch) {x0 : Nat} {x1 : Int32} {x2 : Int32} {st : XS} {r : Int32} {st2 : XS} (h : f_M_close x0 x1 x2 st = some (r, st2)) : x_M l M_M_close rm_M_close [xR 32 (some (x0)), xI (x1), xI (x2)] st (.inl (some (xI r))) st2 0 0 := by
  refine x_enter (Nat.le_of_ble_eq_true rfl) ?_
  intro p e s m below meth c D cA g args B C
  have hret := B.2.2.2.2.2.2.2.2.1
  have hmn := B.2.2.2.2.2.2.2.1
  have hex := B.2.2.2.2.2.2.2.2.2.1
  unfold f_M_close at h
  refine x_aload_n (pc := 0) C (d_M_close 0 rfl) rfl 0 rfl ?_
  refine x_aload_n (pc := 1) C (d_M_close 1 rfl) rfl 0 rfl ?_
  refine x_iload_n (pc := 2) C (d_M_close 2 rfl) rfl 1 rfl ?_
  cases c23 : f_M_isReady x0 x1 st with
  | none => rw [c23] at h; cases h
  | some v24 =>
    rw [c23] at h
    dsimp only at h
    refine x_callV (mc := 0) (ms := 0) (pc := 3) (bL := [xI (x1)]) (K := [xR 32 (some (x0))]) C cs_M_103 (m_M_isReady l c23 : x_M l _ _ _ _ (.inl (some (xI v24))) _ 0 0) (by decide) rfl (Nat.le_of_ble_eq_true rfl) (d_M_close 3 rfl) ?_
    refine x_if_ne (pc := 6) (tgt := 13) C (d_M_close 4 rfl) (by decide) (fun c25 => ?_) (fun c25 => ?_)
    · rw [if_neg c25] at h
      refine x_iconst (pc := 13) (v := 0) C (by decide) (d_M_close 7 rfl) ?_
      exact x_sub [0, 1, 2] rfl (v_M_close_14 C hret hmn hex _ _ _ _ _ _ h)
    · rw [if_pos c25] at h
      refine x_iconst (pc := 9) (v := 1) C (by decide) (d_M_close 5 rfl) ?_
      refine x_goto (pc := 10) (tgt := 14) C (d_M_close 6 rfl) (by decide) ?_
      exact x_sub [0, 1, 2] rfl (v_M_close_14 C hret hmn hex _ _ _ _ _ _ h)
def f_M_dup_29  (x0 : Nat) (x1 : Int32) (x2 : Int32) (x3 : Int32) (s0 : Int32) (s1 : Int32) (s2 : Option Nat) (st : XS) : Option (Int32 × XS) :=
  match s2 with
  | none => none
  | some i1 =>
    match f_M_fails i1 s1 s0 st with
    | none => none
    | some (v4, st5) =>
      if v4 = 0 then
        match f_M_openingOf x0 x1 x2 st5 with
        | none => none
        | some v8 =>
          if 0 ≤ v8 then
            if 0 ≤ x3 then
              match st5.2.2.1 32 x0 4 with
              | none => none
              | some i11 =>
                if x_in (((8 : Int32) * x1) + x3) 64 then
                  match f_M_sweep x0 (xsI st5 36 i11 (((8 : Int32) * x1) + x3).toNatClampNeg v8) with
                  | none => none
                  | some (_, st16) =>
                    match f_M_wake x0 st16 with
                    | none => none
                    | some (v18, st19) =>
                      some (x3, st19)
                else none
            else
              match f_M_freeDescriptor x0 x1 st5 with
              | none => none
              | some v23 =>
                if 0 ≤ v23 then
                  match f_M_give x0 x1 v8 st5 with
                  | none => none
                  | some (v26, st27) =>
                    some (v26, st27)
                else
                  some ((-4), st5)
          else
            some ((-1), st5)
      else
        some (0, st5)
set_option maxRecDepth 100000 in
set_option maxHeartbeats 4000000 in
theorem v_M_dup_29 {p : Program} {l : Launch} {e : Env} {s : State} {m : MethodId} {args : Array Value} {below : List Frame} {meth : Method} {c : Code} {D : va_G} {cA : Nat → ClassId} {g0 : Nat → Nat → Nat} {n0 : Nat → Nat} {r : Int32} {st2 : XS} (C : x_C p e rm_M_dup s m args meth c D cA (x_A g0 n0 s.heap.size) M_M_dup.2.1 M_M_dup.1 M_M_dup.2.2.1) (hret : meth.sig.returnType = M_M_dup.2.2.2.1) (hmn : meth.name = M_M_dup.2.2.2.2.2) (hex : c.exceptionTable.toList.map (fun h => (h.startPc, h.endPc, h.handlerPc, h.catchType)) = M_M_dup.2.2.2.2.1)  (x0 : Nat) (x1 : Int32) (x2 : Int32) (x3 : Int32) (s0 : Int32) (s1 : Int32) (s2 : Option Nat) (st : XS) (h : f_M_dup_29 x0 x1 x2 x3 s0 s1 s2 st = some (r, st2)) : x_V p l e rm_M_dup s m args below meth c D cA (x_A g0 n0 s.heap.size) M_M_dup.2.2.1 g0 n0 (x_MQ D cA g0 n0 below s 0 0 (.inl (some (xI r))) st2) 29 [(0, xR 32 (some (x0))), (1, xI (x1)), (2, xI (x2)), (3, xI (x3))] [xI (s0), xI (s1), xR 32 (s2)] st 0 0 := by
  unfold f_M_dup_29 at h
  cases c2 : s2 with
  | none => rw [c2] at h; cases h
  | some i1 =>
    rw [c2] at h
    dsimp only at h
    cases c3 : f_M_fails i1 s1 s0 st with
    | none => rw [c3] at h; cases h
    | some w31 =>
      obtain ⟨v4, st5⟩ := w31
      rw [c3] at h
      dsimp only at h
      refine x_callV (mc := 0) (ms := 0) (pc := 29) (bL := [xI (s1), xI (s0)]) (K := []) C cs_M_107 (m_M_fails l c3 : x_M l _ _ _ _ (.inl (some (xI v4))) _ 0 0) (by decide) rfl (Nat.le_of_ble_eq_true rfl) (d_M_dup 16 rfl) ?_
      refine x_if_eq (pc := 32) (tgt := 37) C (d_M_dup 17 rfl) (by decide) (fun c6 => ?_) (fun c6 => ?_)
      · rw [if_pos c6] at h
        refine x_aload_n (pc := 37) C (d_M_dup 20 rfl) rfl 0 rfl ?_
        refine x_iload_n (pc := 38) C (d_M_dup 21 rfl) rfl 1 rfl ?_
        refine x_iload_n (pc := 39) C (d_M_dup 22 rfl) rfl 2 rfl ?_
        cases c7 : f_M_openingOf x0 x1 x2 st5 with
        | none => rw [c7] at h; cases h
        | some v8 =>
          rw [c7] at h
          dsimp only at h
          refine x_callV (mc := 0) (ms := 0) (pc := 40) (bL := [xI (x1), xI (x2)]) (K := []) C cs_M_133 (m_M_openingOf l c7 : x_M l _ _ _ _ (.inl (some (xI v8))) _ 0 0) (by decide) rfl (Nat.le_of_ble_eq_true rfl) (d_M_dup 23 rfl) ?_
          refine x_istore (pc := 43) (L2 := [(4, xI (v8)), (0, xR 32 (some (x0))), (1, xI (x1)), (2, xI (x2)), (3, xI (x3))]) C (d_M_dup 24 rfl) (by decide) rfl ?_
          refine x_iload (pc := 45) C (d_M_dup 25 rfl) 0 rfl ?_
          refine x_if_ge (pc := 47) (tgt := 52) C (d_M_dup 26 rfl) (by decide) (fun c9 => ?_) (fun c9 => ?_)
          · rw [if_pos c9] at h
            refine x_iload_n (pc := 52) C (d_M_dup 29 rfl) rfl 4 rfl ?_
            refine x_if_ge (pc := 53) (tgt := 77) C (d_M_dup 30 rfl) (by decide) (fun c10 => ?_) (fun c10 => ?_)
            · rw [if_pos c10] at h
              refine x_aload_n (pc := 77) C (d_M_dup 42 rfl) rfl 1 rfl ?_
              refine x_getR (pc := 78) (t := 36) C fl_M_19 rfl rfl (d_M_dup 43 rfl) ?_
              refine x_bipush (pc := 81) (v := 8) C (by decide) (d_M_dup 44 rfl) ?_
              refine x_iload_n (pc := 83) C (d_M_dup 45 rfl) rfl 2 rfl ?_
              refine x_imul (pc := 84) C (d_M_dup 46 rfl) ?_
              refine x_iload_n (pc := 85) C (d_M_dup 47 rfl) rfl 4 rfl ?_
              refine x_iadd (pc := 86) C (d_M_dup 48 rfl) ?_
              refine x_iload (pc := 87) C (d_M_dup 49 rfl) 0 rfl ?_
              cases c12 : st5.2.2.1 32 x0 4 with
              | none => rw [c12] at h; cases h
              | some i11 =>
                rw [c12] at h
                dsimp only at h
                by_cases b13 : x_in (((8 : Int32) * x1) + x3) 64
                · rw [if_pos b13] at h
                  refine x_iast (pc := 89) C ar_36 b13 (d_M_dup 50 rfl) ?_
                  refine x_aload_n (pc := 90) C (d_M_dup 51 rfl) rfl 1 rfl ?_
                  cases c14 : f_M_sweep x0 (xsI st5 36 i11 (((8 : Int32) * x1) + x3).toNatClampNeg v8) with
                  | none => rw [c14] at h; cases h
                  | some w21 =>
                    obtain ⟨v15, st16⟩ := w21
                    rw [c14] at h
                    dsimp only at h
                    refine x_callV (mc := 0) (ms := 0) (pc := 91) (bL := []) (K := []) C cs_M_114 (m_M_sweep l c14 : x_M l _ _ _ _ (.inl none) _ 0 0) (by decide) rfl (Nat.le_of_ble_eq_true rfl) (d_M_dup 52 rfl) ?_
                    refine x_aload_n (pc := 94) C (d_M_dup 53 rfl) rfl 1 rfl ?_
                    cases c17 : f_M_wake x0 st16 with
                    | none => rw [c17] at h; cases h
                    | some w20 =>
                      obtain ⟨v18, st19⟩ := w20
                      rw [c17] at h
                      dsimp only at h
                      refine x_callV (mc := 0) (ms := 0) (pc := 95) (bL := []) (K := []) C cs_M_117 (m_M_wake l c17 : x_M l _ _ _ _ (.inl (some (xI v18))) _ 0 0) (by decide) rfl (Nat.le_of_ble_eq_true rfl) (d_M_dup 54 rfl) ?_
                      refine x_popv (pc := 98) C rfl (d_M_dup 55 rfl) ?_
                      refine x_iload_n (pc := 99) C (d_M_dup 56 rfl) rfl 4 rfl ?_
                      cases h
                      exact x_iret (pc := 100) C hret rfl (Nat.zero_le _) (Nat.zero_le _) (d_M_dup 57 rfl)
                · rw [if_neg b13] at h; cases h
            · rw [if_neg c10] at h
              refine x_aload_n (pc := 56) C (d_M_dup 31 rfl) rfl 1 rfl ?_
              refine x_iload_n (pc := 57) C (d_M_dup 32 rfl) rfl 2 rfl ?_
              cases c22 : f_M_freeDescriptor x0 x1 st5 with
              | none => rw [c22] at h; cases h
              | some v23 =>
                rw [c22] at h
                dsimp only at h
                refine x_callV (mc := 0) (ms := 0) (pc := 58) (bL := [xI (x1)]) (K := []) C cs_M_86 (m_M_freeDescriptor l c22 : x_M l _ _ _ _ (.inl (some (xI v23))) _ 0 0) (by decide) rfl (Nat.le_of_ble_eq_true rfl) (d_M_dup 33 rfl) ?_
                refine x_if_ge (pc := 61) (tgt := 69) C (d_M_dup 34 rfl) (by decide) (fun c24 => ?_) (fun c24 => ?_)
                · rw [if_pos c24] at h
                  refine x_aload_n (pc := 69) C (d_M_dup 37 rfl) rfl 1 rfl ?_
                  refine x_iload_n (pc := 70) C (d_M_dup 38 rfl) rfl 2 rfl ?_
                  refine x_iload (pc := 71) C (d_M_dup 39 rfl) 0 rfl ?_
                  cases c25 : f_M_give x0 x1 v8 st5 with
                  | none => rw [c25] at h; cases h
                  | some w28 =>
                    obtain ⟨v26, st27⟩ := w28
                    rw [c25] at h
                    dsimp only at h
                    refine x_callV (mc := 0) (ms := 0) (pc := 73) (bL := [xI (x1), xI (v8)]) (K := []) C cs_M_100 (m_M_give l c25 : x_M l _ _ _ _ (.inl (some (xI v26))) _ 0 0) (by decide) rfl (Nat.le_of_ble_eq_true rfl) (d_M_dup 40 rfl) ?_
                    cases h
                    exact x_iret (pc := 76) C hret rfl (Nat.zero_le _) (Nat.zero_le _) (d_M_dup 41 rfl)
                · rw [if_neg c24] at h
                  refine x_bipush (pc := 64) (v := (-4)) C (by decide) (d_M_dup 35 rfl) ?_
                  refine x_goto (pc := 66) (tgt := 76) C (d_M_dup 36 rfl) (by decide) ?_
                  cases h
                  exact x_iret (pc := 76) C hret rfl (Nat.zero_le _) (Nat.zero_le _) (d_M_dup 41 rfl)
          · rw [if_neg c9] at h
            refine x_iconst (pc := 50) (v := (-1)) C (by decide) (d_M_dup 27 rfl) ?_
            cases h
            exact x_iret (pc := 51) C hret rfl (Nat.zero_le _) (Nat.zero_le _) (d_M_dup 28 rfl)
      · rw [if_neg c6] at h
        refine x_iconst (pc := 35) (v := 0) C (by decide) (d_M_dup 18 rfl) ?_
        cases h
        exact x_iret (pc := 36) C hret rfl (Nat.zero_le _) (Nat.zero_le _) (d_M_dup 19 rfl)
def f_M_dup (x0 : Nat) (x1 : Int32) (x2 : Int32) (x3 : Int32) (st : XS) : Option (Int32 × XS) :=
  match f_M_isReady x0 x1 st with
  | none => none
  | some v33 =>
    if v33 = 0 then
      match f_M_in x3 ((-1)) 7 st with
      | none => none
      | some v40 =>
        if v40 = 0 then
          f_M_dup_29 x0 x1 x2 x3 1 1 (some (x0)) st
        else
          f_M_dup_29 x0 x1 x2 x3 0 1 (some (x0)) st
    else
      match f_M_in x3 ((-1)) 7 st with
      | none => none
      | some v36 =>
        if v36 = 0 then
          f_M_dup_29 x0 x1 x2 x3 1 0 (some (x0)) st
        else
          f_M_dup_29 x0 x1 x2 x3 0 0 (some (x0)) st
set_option maxRecDepth 100000 in
set_option maxHeartbeats 4000000 in
theorem m_M_dup (l : Launch) {x0 : Nat} {x1 : Int32} {x2 : Int32} {x3 : Int32} {st : XS} {r : Int32} {st2 : XS} (h : f_M_dup x0 x1 x2 x3 st = some (r, st2)) : x_M l M_M_dup rm_M_dup [xR 32 (some (x0)), xI (x1), xI (x2), xI (x3)] st (.inl (some (xI r))) st2 0 0 := by
  refine x_enter (Nat.le_of_ble_eq_true rfl) ?_
  intro p e s m below meth c D cA g args B C
  have hret := B.2.2.2.2.2.2.2.2.1
  have hmn := B.2.2.2.2.2.2.2.1
  have hex := B.2.2.2.2.2.2.2.2.2.1
  unfold f_M_dup at h
  refine x_aload_n (pc := 0) C (d_M_dup 0 rfl) rfl 0 rfl ?_
  refine x_aload_n (pc := 1) C (d_M_dup 1 rfl) rfl 0 rfl ?_
  refine x_iload_n (pc := 2) C (d_M_dup 2 rfl) rfl 1 rfl ?_
  cases c32 : f_M_isReady x0 x1 st with
  | none => rw [c32] at h; cases h
  | some v33 =>
    rw [c32] at h
    dsimp only at h
    refine x_callV (mc := 0) (ms := 0) (pc := 3) (bL := [xI (x1)]) (K := [xR 32 (some (x0))]) C cs_M_103 (m_M_isReady l c32 : x_M l _ _ _ _ (.inl (some (xI v33))) _ 0 0) (by decide) rfl (Nat.le_of_ble_eq_true rfl) (d_M_dup 3 rfl) ?_
    refine x_if_ne (pc := 6) (tgt := 13) C (d_M_dup 4 rfl) (by decide) (fun c34 => ?_) (fun c34 => ?_)
    · rw [if_neg c34] at h
      refine x_iconst (pc := 13) (v := 0) C (by decide) (d_M_dup 7 rfl) ?_
      refine x_iload_n (pc := 14) C (d_M_dup 8 rfl) rfl 3 rfl ?_
      refine x_iconst (pc := 15) (v := (-1)) C (by decide) (d_M_dup 9 rfl) ?_
      refine x_bipush (pc := 16) (v := 7) C (by decide) (d_M_dup 10 rfl) ?_
      cases c35 : f_M_in x3 ((-1)) 7 st with
      | none => rw [c35] at h; cases h
      | some v36 =>
        rw [c35] at h
        dsimp only at h
        refine x_callS (mc := 0) (ms := 0) (pc := 18) (aL := [xI (x3), xI ((-1)), xI (7)]) (K := [xI (0), xR 32 (some (x0))]) C cs_M_70 (m_M_in l c35 : x_M l _ _ _ _ (.inl (some (xI v36))) _ 0 0) (by decide) rfl (Nat.le_of_ble_eq_true rfl) (d_M_dup 11 rfl) ?_
        refine x_if_ne (pc := 21) (tgt := 28) C (d_M_dup 12 rfl) (by decide) (fun c37 => ?_) (fun c37 => ?_)
        · rw [if_neg c37] at h
          refine x_iconst (pc := 28) (v := 0) C (by decide) (d_M_dup 15 rfl) ?_
          exact x_sub [0, 1, 2, 3] rfl (v_M_dup_29 C hret hmn hex _ _ _ _ _ _ _ _ h)
        · rw [if_pos c37] at h
          refine x_iconst (pc := 24) (v := 1) C (by decide) (d_M_dup 13 rfl) ?_
          refine x_goto (pc := 25) (tgt := 29) C (d_M_dup 14 rfl) (by decide) ?_
          exact x_sub [0, 1, 2, 3] rfl (v_M_dup_29 C hret hmn hex _ _ _ _ _ _ _ _ h)
    · rw [if_pos c34] at h
      refine x_iconst (pc := 9) (v := 1) C (by decide) (d_M_dup 5 rfl) ?_
      refine x_goto (pc := 10) (tgt := 14) C (d_M_dup 6 rfl) (by decide) ?_
      refine x_iload_n (pc := 14) C (d_M_dup 8 rfl) rfl 3 rfl ?_
      refine x_iconst (pc := 15) (v := (-1)) C (by decide) (d_M_dup 9 rfl) ?_
      refine x_bipush (pc := 16) (v := 7) C (by decide) (d_M_dup 10 rfl) ?_
      cases c39 : f_M_in x3 ((-1)) 7 st with
      | none => rw [c39] at h; cases h
      | some v40 =>
        rw [c39] at h
        dsimp only at h
        refine x_callS (mc := 0) (ms := 0) (pc := 18) (aL := [xI (x3), xI ((-1)), xI (7)]) (K := [xI (1), xR 32 (some (x0))]) C cs_M_70 (m_M_in l c39 : x_M l _ _ _ _ (.inl (some (xI v40))) _ 0 0) (by decide) rfl (Nat.le_of_ble_eq_true rfl) (d_M_dup 11 rfl) ?_
        refine x_if_ne (pc := 21) (tgt := 28) C (d_M_dup 12 rfl) (by decide) (fun c41 => ?_) (fun c41 => ?_)
        · rw [if_neg c41] at h
          refine x_iconst (pc := 28) (v := 0) C (by decide) (d_M_dup 15 rfl) ?_
          exact x_sub [0, 1, 2, 3] rfl (v_M_dup_29 C hret hmn hex _ _ _ _ _ _ _ _ h)
        · rw [if_pos c41] at h
          refine x_iconst (pc := 24) (v := 1) C (by decide) (d_M_dup 13 rfl) ?_
          refine x_goto (pc := 25) (tgt := 29) C (d_M_dup 14 rfl) (by decide) ?_
          exact x_sub [0, 1, 2, 3] rfl (v_M_dup_29 C hret hmn hex _ _ _ _ _ _ _ _ h)
def f_M_type_17  (x0 : Nat) (x1 : Int32) (s0 : Int32) (s1 : Option Nat) (st : XS) : Option (Int32 × XS) :=
  match s1 with
  | none => none
  | some i1 =>
    match f_M_fails i1 s0 0 st with
    | none => none
    | some (v4, st5) =>
      if v4 = 0 then
        if (st5.1 32 x0 17) = 40 then
          some ((-7), st5)
        else
          match st5.2.2.1 32 x0 18 with
          | none => none
          | some i8 =>
            if x_in (st5.1 32 x0 17) 40 then
              match f_M_wake x0 (xsI (xsI st5 49 i8 (st5.1 32 x0 17).toNatClampNeg x1) 32 x0 17 (((xsI st5 49 i8 (st5.1 32 x0 17).toNatClampNeg x1).1 32 x0 17) + (1 : Int32))) with
              | none => none
              | some (v12, st13) =>
                some (v12, st13)
            else none
      else
        some (0, st5)
set_option maxRecDepth 100000 in
set_option maxHeartbeats 4000000 in
theorem v_M_type_17 {p : Program} {l : Launch} {e : Env} {s : State} {m : MethodId} {args : Array Value} {below : List Frame} {meth : Method} {c : Code} {D : va_G} {cA : Nat → ClassId} {g0 : Nat → Nat → Nat} {n0 : Nat → Nat} {r : Int32} {st2 : XS} (C : x_C p e rm_M_type s m args meth c D cA (x_A g0 n0 s.heap.size) M_M_type.2.1 M_M_type.1 M_M_type.2.2.1) (hret : meth.sig.returnType = M_M_type.2.2.2.1) (hmn : meth.name = M_M_type.2.2.2.2.2) (hex : c.exceptionTable.toList.map (fun h => (h.startPc, h.endPc, h.handlerPc, h.catchType)) = M_M_type.2.2.2.2.1)  (x0 : Nat) (x1 : Int32) (s0 : Int32) (s1 : Option Nat) (st : XS) (h : f_M_type_17 x0 x1 s0 s1 st = some (r, st2)) : x_V p l e rm_M_type s m args below meth c D cA (x_A g0 n0 s.heap.size) M_M_type.2.2.1 g0 n0 (x_MQ D cA g0 n0 below s 0 0 (.inl (some (xI r))) st2) 17 [(0, xR 32 (some (x0))), (1, xI (x1))] [xI (s0), xR 32 (s1)] st 0 0 := by
  unfold f_M_type_17 at h
  refine x_iconst (pc := 17) (v := 0) C (by decide) (d_M_type 9 rfl) ?_
  cases c2 : s1 with
  | none => rw [c2] at h; cases h
  | some i1 =>
    rw [c2] at h
    dsimp only at h
    cases c3 : f_M_fails i1 s0 0 st with
    | none => rw [c3] at h; cases h
    | some w15 =>
      obtain ⟨v4, st5⟩ := w15
      rw [c3] at h
      dsimp only at h
      refine x_callV (mc := 0) (ms := 0) (pc := 18) (bL := [xI (s0), xI (0)]) (K := []) C cs_M_107 (m_M_fails l c3 : x_M l _ _ _ _ (.inl (some (xI v4))) _ 0 0) (by decide) rfl (Nat.le_of_ble_eq_true rfl) (d_M_type 10 rfl) ?_
      refine x_if_eq (pc := 21) (tgt := 26) C (d_M_type 11 rfl) (by decide) (fun c6 => ?_) (fun c6 => ?_)
      · rw [if_pos c6] at h
        refine x_aload_n (pc := 26) C (d_M_type 14 rfl) rfl 0 rfl ?_
        refine x_getI (pc := 27) C fl_M_120 rfl (d_M_type 15 rfl) ?_
        refine x_bipush (pc := 30) (v := 40) C (by decide) (d_M_type 16 rfl) ?_
        refine x_icmp_ne (pc := 32) (tgt := 38) C (d_M_type 17 rfl) (by decide) (fun c7 => ?_) (fun c7 => ?_)
        · rw [if_neg c7] at h
          refine x_aload_n (pc := 38) C (d_M_type 20 rfl) rfl 0 rfl ?_
          refine x_getR (pc := 39) (t := 49) C fl_M_60 rfl rfl (d_M_type 21 rfl) ?_
          refine x_aload_n (pc := 42) C (d_M_type 22 rfl) rfl 0 rfl ?_
          refine x_getI (pc := 43) C fl_M_120 rfl (d_M_type 23 rfl) ?_
          refine x_iload_n (pc := 46) C (d_M_type 24 rfl) rfl 1 rfl ?_
          cases c9 : st5.2.2.1 32 x0 18 with
          | none => rw [c9] at h; cases h
          | some i8 =>
            rw [c9] at h
            dsimp only at h
            by_cases b10 : x_in (st5.1 32 x0 17) 40
            · rw [if_pos b10] at h
              refine x_iast (pc := 47) C ar_49 b10 (d_M_type 25 rfl) ?_
              refine x_aload_n (pc := 48) C (d_M_type 26 rfl) rfl 0 rfl ?_
              refine x_dup (pc := 49) C rfl (d_M_type 27 rfl) ?_
              refine x_getI (pc := 50) C fl_M_120 rfl (d_M_type 28 rfl) ?_
              refine x_iconst (pc := 53) (v := 1) C (by decide) (d_M_type 29 rfl) ?_
              refine x_iadd (pc := 54) C (d_M_type 30 rfl) ?_
              refine x_putI (pc := 55) C fl_M_120 (pf_M_120 _) rfl ty_32_17 (d_M_type 31 rfl) ?_
              refine x_aload_n (pc := 58) C (d_M_type 32 rfl) rfl 0 rfl ?_
              cases c11 : f_M_wake x0 (xsI (xsI st5 49 i8 (st5.1 32 x0 17).toNatClampNeg x1) 32 x0 17 (((xsI st5 49 i8 (st5.1 32 x0 17).toNatClampNeg x1).1 32 x0 17) + (1 : Int32))) with
              | none => rw [c11] at h; cases h
              | some w14 =>
                obtain ⟨v12, st13⟩ := w14
                rw [c11] at h
                dsimp only at h
                refine x_callV (mc := 0) (ms := 0) (pc := 59) (bL := []) (K := []) C cs_M_117 (m_M_wake l c11 : x_M l _ _ _ _ (.inl (some (xI v12))) _ 0 0) (by decide) rfl (Nat.le_of_ble_eq_true rfl) (d_M_type 33 rfl) ?_
                cases h
                exact x_iret (pc := 62) C hret rfl (Nat.zero_le _) (Nat.zero_le _) (d_M_type 34 rfl)
            · rw [if_neg b10] at h; cases h
        · rw [if_pos c7] at h
          refine x_bipush (pc := 35) (v := (-7)) C (by decide) (d_M_type 18 rfl) ?_
          cases h
          exact x_iret (pc := 37) C hret rfl (Nat.zero_le _) (Nat.zero_le _) (d_M_type 19 rfl)
      · rw [if_neg c6] at h
        refine x_iconst (pc := 24) (v := 0) C (by decide) (d_M_type 12 rfl) ?_
        cases h
        exact x_iret (pc := 25) C hret rfl (Nat.zero_le _) (Nat.zero_le _) (d_M_type 13 rfl)
def f_M_type (x0 : Nat) (x1 : Int32) (st : XS) : Option (Int32 × XS) :=
  match f_M_in x1 0 255 st with
  | none => none
  | some v17 =>
    if v17 = 0 then
      f_M_type_17 x0 x1 1 (some (x0)) st
    else
      f_M_type_17 x0 x1 0 (some (x0)) st
set_option maxRecDepth 100000 in
set_option maxHeartbeats 4000000 in
theorem m_M_type (l : Launch) {x0 : Nat} {x1 : Int32} {st : XS} {r : Int32} {st2 : XS} (h : f_M_type x0 x1 st = some (r, st2)) : x_M l M_M_type rm_M_type [xR 32 (some (x0)), xI (x1)] st (.inl (some (xI r))) st2 0 0 := by
  refine x_enter (Nat.le_of_ble_eq_true rfl) ?_
  intro p e s m below meth c D cA g args B C
  have hret := B.2.2.2.2.2.2.2.2.1
  have hmn := B.2.2.2.2.2.2.2.1
  have hex := B.2.2.2.2.2.2.2.2.2.1
  unfold f_M_type at h
  refine x_aload_n (pc := 0) C (d_M_type 0 rfl) rfl 0 rfl ?_
  refine x_iload_n (pc := 1) C (d_M_type 1 rfl) rfl 1 rfl ?_
  refine x_iconst (pc := 2) (v := 0) C (by decide) (d_M_type 2 rfl) ?_
  refine x_sipush (pc := 3) (v := 255) C (by decide) (d_M_type 3 rfl) ?_
  cases c16 : f_M_in x1 0 255 st with
  | none => rw [c16] at h; cases h
  | some v17 =>
    rw [c16] at h
    dsimp only at h
    refine x_callS (mc := 0) (ms := 0) (pc := 6) (aL := [xI (x1), xI (0), xI (255)]) (K := [xR 32 (some (x0))]) C cs_M_70 (m_M_in l c16 : x_M l _ _ _ _ (.inl (some (xI v17))) _ 0 0) (by decide) rfl (Nat.le_of_ble_eq_true rfl) (d_M_type 4 rfl) ?_
    refine x_if_ne (pc := 9) (tgt := 16) C (d_M_type 5 rfl) (by decide) (fun c18 => ?_) (fun c18 => ?_)
    · rw [if_neg c18] at h
      refine x_iconst (pc := 16) (v := 0) C (by decide) (d_M_type 8 rfl) ?_
      exact x_sub [0, 1] rfl (v_M_type_17 C hret hmn hex _ _ _ _ _ h)
    · rw [if_pos c18] at h
      refine x_iconst (pc := 12) (v := 1) C (by decide) (d_M_type 6 rfl) ?_
      refine x_goto (pc := 13) (tgt := 17) C (d_M_type 7 rfl) (by decide) ?_
      exact x_sub [0, 1] rfl (v_M_type_17 C hret hmn hex _ _ _ _ _ h)
def f_M_shown_26  (x0 : Nat) (x1 : Int32) (s0 : Int64) (st : XS) : Option (Int32 × XS) :=
  if x1 < 0 then
    some ((-1), st)
  else
    if (lg_cmp (x1.toInt64) s0) < 0 then
      match st.2.2.1 32 x0 20 with
      | none => none
      | some i3 =>
        if x_in x1 60 then
          some (st.1 50 i3 x1.toNatClampNeg, st)
        else none
    else
      some ((-1), st)
set_option maxRecDepth 100000 in
set_option maxHeartbeats 4000000 in
theorem v_M_shown_26 {p : Program} {l : Launch} {e : Env} {s : State} {m : MethodId} {args : Array Value} {below : List Frame} {meth : Method} {c : Code} {D : va_G} {cA : Nat → ClassId} {g0 : Nat → Nat → Nat} {n0 : Nat → Nat} {r : Int32} {st2 : XS} (C : x_C p e rm_M_shown s m args meth c D cA (x_A g0 n0 s.heap.size) M_M_shown.2.1 M_M_shown.1 M_M_shown.2.2.1) (hret : meth.sig.returnType = M_M_shown.2.2.2.1) (hmn : meth.name = M_M_shown.2.2.2.2.2) (hex : c.exceptionTable.toList.map (fun h => (h.startPc, h.endPc, h.handlerPc, h.catchType)) = M_M_shown.2.2.2.2.1)  (x0 : Nat) (x1 : Int32) (s0 : Int64) (st : XS) (h : f_M_shown_26 x0 x1 s0 st = some (r, st2)) : x_V p l e rm_M_shown s m args below meth c D cA (x_A g0 n0 s.heap.size) M_M_shown.2.2.1 g0 n0 (x_MQ D cA g0 n0 below s 0 0 (.inl (some (xI r))) st2) 26 [(0, xR 32 (some (x0))), (1, xI (x1))] [xL (s0)] st 0 0 := by
  unfold f_M_shown_26 at h
  refine x_lstore_n (pc := 26) (L2 := [(2, xL (s0)), (0, xR 32 (some (x0))), (1, xI (x1))]) C (d_M_shown 12 rfl) rfl (by decide) rfl ?_
  refine x_iload_n (pc := 27) C (d_M_shown 13 rfl) rfl 2 rfl ?_
  refine x_if_lt (pc := 28) (tgt := 38) C (d_M_shown 14 rfl) (by decide) (fun c1 => ?_) (fun c1 => ?_)
  · rw [if_pos c1] at h
    refine x_iconst (pc := 38) (v := (-1)) C (by decide) (d_M_shown 20 rfl) ?_
    refine x_goto (pc := 39) (tgt := 48) C (d_M_shown 21 rfl) (by decide) ?_
    cases h
    exact x_iret (pc := 48) C hret rfl (Nat.zero_le _) (Nat.zero_le _) (d_M_shown 26 rfl)
  · rw [if_neg c1] at h
    refine x_iload_n (pc := 31) C (d_M_shown 15 rfl) rfl 2 rfl ?_
    refine x_i2l (pc := 32) C (d_M_shown 16 rfl) ?_
    refine x_lload_n (pc := 33) C (d_M_shown 17 rfl) rfl 0 rfl ?_
    refine x_lcmp (pc := 34) C (d_M_shown 18 rfl) ?_
    refine x_if_lt (pc := 35) (tgt := 42) C (d_M_shown 19 rfl) (by decide) (fun c2 => ?_) (fun c2 => ?_)
    · rw [if_pos c2] at h
      refine x_aload_n (pc := 42) C (d_M_shown 22 rfl) rfl 1 rfl ?_
      refine x_getR (pc := 43) (t := 50) C fl_M_63 rfl rfl (d_M_shown 23 rfl) ?_
      refine x_iload_n (pc := 46) C (d_M_shown 24 rfl) rfl 2 rfl ?_
      cases c4 : st.2.2.1 32 x0 20 with
      | none => rw [c4] at h; cases h
      | some i3 =>
        rw [c4] at h
        dsimp only at h
        by_cases b5 : x_in x1 60
        · rw [if_pos b5] at h
          refine x_iald (pc := 47) C ar_50 b5 (d_M_shown 25 rfl) ?_
          cases h
          exact x_iret (pc := 48) C hret rfl (Nat.zero_le _) (Nat.zero_le _) (d_M_shown 26 rfl)
        · rw [if_neg b5] at h; cases h
    · rw [if_neg c2] at h
      refine x_iconst (pc := 38) (v := (-1)) C (by decide) (d_M_shown 20 rfl) ?_
      refine x_goto (pc := 39) (tgt := 48) C (d_M_shown 21 rfl) (by decide) ?_
      cases h
      exact x_iret (pc := 48) C hret rfl (Nat.zero_le _) (Nat.zero_le _) (d_M_shown 26 rfl)
def f_M_shown (x0 : Nat) (x1 : Int32) (st : XS) : Option (Int32 × XS) :=
  if 0 ≤ (lg_cmp ((xsI st 32 x0 0 0).2.1 32 x0 19) 60) then
    f_M_shown_26 x0 x1 60 (xsI st 32 x0 0 0)
  else
    f_M_shown_26 x0 x1 ((xsI st 32 x0 0 0).2.1 32 x0 19) (xsI st 32 x0 0 0)
set_option maxRecDepth 100000 in
set_option maxHeartbeats 4000000 in
theorem m_M_shown (l : Launch) {x0 : Nat} {x1 : Int32} {st : XS} {r : Int32} {st2 : XS} (h : f_M_shown x0 x1 st = some (r, st2)) : x_M l M_M_shown rm_M_shown [xR 32 (some (x0)), xI (x1)] st (.inl (some (xI r))) st2 0 0 := by
  refine x_enter (Nat.le_of_ble_eq_true rfl) ?_
  intro p e s m below meth c D cA g args B C
  have hret := B.2.2.2.2.2.2.2.2.1
  have hmn := B.2.2.2.2.2.2.2.1
  have hex := B.2.2.2.2.2.2.2.2.2.1
  unfold f_M_shown at h
  refine x_aload_n (pc := 0) C (d_M_shown 0 rfl) rfl 0 rfl ?_
  refine x_iconst (pc := 1) (v := 0) C (by decide) (d_M_shown 1 rfl) ?_
  refine x_putI (pc := 2) C fl_M_66 (pf_M_66 _) rfl ty_32_0 (d_M_shown 2 rfl) ?_
  refine x_aload_n (pc := 5) C (d_M_shown 3 rfl) rfl 0 rfl ?_
  refine x_getJ (pc := 6) C fl_M_161 rfl (d_M_shown 4 rfl) ?_
  refine x_ldc2 (pc := 9) C w_843 (d_M_shown 5 rfl) ?_
  refine x_lcmp (pc := 12) C (d_M_shown 6 rfl) ?_
  refine x_if_ge (pc := 13) (tgt := 23) C (d_M_shown 7 rfl) (by decide) (fun c6 => ?_) (fun c6 => ?_)
  · rw [if_pos c6] at h
    refine x_ldc2 (pc := 23) C w_843 (d_M_shown 11 rfl) ?_
    exact x_sub [0, 1] rfl (v_M_shown_26 C hret hmn hex _ _ _ _ h)
  · rw [if_neg c6] at h
    refine x_aload_n (pc := 16) C (d_M_shown 8 rfl) rfl 0 rfl ?_
    refine x_getJ (pc := 17) C fl_M_161 rfl (d_M_shown 9 rfl) ?_
    refine x_goto (pc := 20) (tgt := 26) C (d_M_shown 10 rfl) (by decide) ?_
    exact x_sub [0, 1] rfl (v_M_shown_26 C hret hmn hex _ _ _ _ h)
def f_M_state (x0 : Nat) (x1 : Int32) (x2 : Int32) (st : XS) : Option (Int32 × XS) :=
  match f_M_isThere x0 x1 (xsI st 32 x0 0 0) with
  | none => none
  | some v2 =>
    if x2 = 0 then
      if v2 = 0 then
        some (0, xsI st 32 x0 0 0)
      else
        match (xsI st 32 x0 0 0).2.2.1 32 x0 1 with
        | none => none
        | some i15 =>
          if x_in x1 8 then
            some ((xsI st 32 x0 0 0).1 33 i15 x1.toNatClampNeg, xsI st 32 x0 0 0)
          else none
    else
      if x2 = 1 then
        if v2 = 0 then
          some ((-1), xsI st 32 x0 0 0)
        else
          match (xsI st 32 x0 0 0).2.2.1 32 x0 2 with
          | none => none
          | some i11 =>
            if x_in x1 8 then
              some ((xsI st 32 x0 0 0).1 34 i11 x1.toNatClampNeg, xsI st 32 x0 0 0)
            else none
      else
        if x2 = 2 then
          if v2 = 0 then
            some (0, xsI st 32 x0 0 0)
          else
            match (xsI st 32 x0 0 0).2.2.1 32 x0 3 with
            | none => none
            | some i7 =>
              if x_in x1 8 then
                some ((xsI st 32 x0 0 0).1 35 i7 x1.toNatClampNeg, xsI st 32 x0 0 0)
              else none
        else
          some ((-1), xsI st 32 x0 0 0)
set_option maxRecDepth 100000 in
set_option maxHeartbeats 4000000 in
theorem m_M_state (l : Launch) {x0 : Nat} {x1 : Int32} {x2 : Int32} {st : XS} {r : Int32} {st2 : XS} (h : f_M_state x0 x1 x2 st = some (r, st2)) : x_M l M_M_state rm_M_state [xR 32 (some (x0)), xI (x1), xI (x2)] st (.inl (some (xI r))) st2 0 0 := by
  refine x_enter (Nat.le_of_ble_eq_true rfl) ?_
  intro p e s m below meth c D cA g args B C
  have hret := B.2.2.2.2.2.2.2.2.1
  have hmn := B.2.2.2.2.2.2.2.1
  have hex := B.2.2.2.2.2.2.2.2.2.1
  unfold f_M_state at h
  refine x_aload_n (pc := 0) C (d_M_state 0 rfl) rfl 0 rfl ?_
  refine x_iconst (pc := 1) (v := 0) C (by decide) (d_M_state 1 rfl) ?_
  refine x_putI (pc := 2) C fl_M_66 (pf_M_66 _) rfl ty_32_0 (d_M_state 2 rfl) ?_
  refine x_aload_n (pc := 5) C (d_M_state 3 rfl) rfl 0 rfl ?_
  refine x_iload_n (pc := 6) C (d_M_state 4 rfl) rfl 1 rfl ?_
  cases c1 : f_M_isThere x0 x1 (xsI st 32 x0 0 0) with
  | none => rw [c1] at h; cases h
  | some v2 =>
    rw [c1] at h
    dsimp only at h
    refine x_callV (mc := 0) (ms := 0) (pc := 7) (bL := [xI (x1)]) (K := []) C cs_M_111 (m_M_isThere l c1 : x_M l _ _ _ _ (.inl (some (xI v2))) _ 0 0) (by decide) rfl (Nat.le_of_ble_eq_true rfl) (d_M_state 5 rfl) ?_
    refine x_istore_n (pc := 10) (L2 := [(3, xI (v2)), (0, xR 32 (some (x0))), (1, xI (x1)), (2, xI (x2))]) C (d_M_state 6 rfl) rfl (by decide) rfl ?_
    refine x_iload_n (pc := 11) C (d_M_state 7 rfl) rfl 3 rfl ?_
    refine x_if_ne (pc := 12) (tgt := 32) C (d_M_state 8 rfl) (by decide) (fun c3 => ?_) (fun c3 => ?_)
    · rw [if_neg c3] at h
      refine x_iload_n (pc := 32) C (d_M_state 18 rfl) rfl 3 rfl ?_
      refine x_iconst (pc := 33) (v := 1) C (by decide) (d_M_state 19 rfl) ?_
      refine x_icmp_ne (pc := 34) (tgt := 54) C (d_M_state 20 rfl) (by decide) (fun c4 => ?_) (fun c4 => ?_)
      · rw [if_neg c4] at h
        refine x_iload_n (pc := 54) C (d_M_state 30 rfl) rfl 3 rfl ?_
        refine x_iconst (pc := 55) (v := 2) C (by decide) (d_M_state 31 rfl) ?_
        refine x_icmp_ne (pc := 56) (tgt := 76) C (d_M_state 32 rfl) (by decide) (fun c5 => ?_) (fun c5 => ?_)
        · rw [if_neg c5] at h
          refine x_iconst (pc := 76) (v := (-1)) C (by decide) (d_M_state 42 rfl) ?_
          cases h
          exact x_iret (pc := 77) C hret rfl (Nat.zero_le _) (Nat.zero_le _) (d_M_state 43 rfl)
        · rw [if_pos c5] at h
          refine x_iload_n (pc := 59) C (d_M_state 33 rfl) rfl 0 rfl ?_
          refine x_if_eq (pc := 60) (tgt := 72) C (d_M_state 34 rfl) (by decide) (fun c6 => ?_) (fun c6 => ?_)
          · rw [if_pos c6] at h
            refine x_iconst (pc := 72) (v := 0) C (by decide) (d_M_state 40 rfl) ?_
            refine x_goto (pc := 73) (tgt := 77) C (d_M_state 41 rfl) (by decide) ?_
            cases h
            exact x_iret (pc := 77) C hret rfl (Nat.zero_le _) (Nat.zero_le _) (d_M_state 43 rfl)
          · rw [if_neg c6] at h
            refine x_aload_n (pc := 63) C (d_M_state 35 rfl) rfl 1 rfl ?_
            refine x_getR (pc := 64) (t := 35) C fl_M_16 rfl rfl (d_M_state 36 rfl) ?_
            refine x_iload_n (pc := 67) C (d_M_state 37 rfl) rfl 2 rfl ?_
            cases c8 : (xsI st 32 x0 0 0).2.2.1 32 x0 3 with
            | none => rw [c8] at h; cases h
            | some i7 =>
              rw [c8] at h
              dsimp only at h
              by_cases b9 : x_in x1 8
              · rw [if_pos b9] at h
                refine x_iald (pc := 68) C ar_35 b9 (d_M_state 38 rfl) ?_
                refine x_goto (pc := 69) (tgt := 77) C (d_M_state 39 rfl) (by decide) ?_
                cases h
                exact x_iret (pc := 77) C hret rfl (Nat.zero_le _) (Nat.zero_le _) (d_M_state 43 rfl)
              · rw [if_neg b9] at h; cases h
      · rw [if_pos c4] at h
        refine x_iload_n (pc := 37) C (d_M_state 21 rfl) rfl 0 rfl ?_
        refine x_if_eq (pc := 38) (tgt := 50) C (d_M_state 22 rfl) (by decide) (fun c10 => ?_) (fun c10 => ?_)
        · rw [if_pos c10] at h
          refine x_iconst (pc := 50) (v := (-1)) C (by decide) (d_M_state 28 rfl) ?_
          refine x_goto (pc := 51) (tgt := 77) C (d_M_state 29 rfl) (by decide) ?_
          cases h
          exact x_iret (pc := 77) C hret rfl (Nat.zero_le _) (Nat.zero_le _) (d_M_state 43 rfl)
        · rw [if_neg c10] at h
          refine x_aload_n (pc := 41) C (d_M_state 23 rfl) rfl 1 rfl ?_
          refine x_getR (pc := 42) (t := 34) C fl_M_13 rfl rfl (d_M_state 24 rfl) ?_
          refine x_iload_n (pc := 45) C (d_M_state 25 rfl) rfl 2 rfl ?_
          cases c12 : (xsI st 32 x0 0 0).2.2.1 32 x0 2 with
          | none => rw [c12] at h; cases h
          | some i11 =>
            rw [c12] at h
            dsimp only at h
            by_cases b13 : x_in x1 8
            · rw [if_pos b13] at h
              refine x_iald (pc := 46) C ar_34 b13 (d_M_state 26 rfl) ?_
              refine x_goto (pc := 47) (tgt := 77) C (d_M_state 27 rfl) (by decide) ?_
              cases h
              exact x_iret (pc := 77) C hret rfl (Nat.zero_le _) (Nat.zero_le _) (d_M_state 43 rfl)
            · rw [if_neg b13] at h; cases h
    · rw [if_pos c3] at h
      refine x_iload_n (pc := 15) C (d_M_state 9 rfl) rfl 0 rfl ?_
      refine x_if_eq (pc := 16) (tgt := 28) C (d_M_state 10 rfl) (by decide) (fun c14 => ?_) (fun c14 => ?_)
      · rw [if_pos c14] at h
        refine x_iconst (pc := 28) (v := 0) C (by decide) (d_M_state 16 rfl) ?_
        refine x_goto (pc := 29) (tgt := 77) C (d_M_state 17 rfl) (by decide) ?_
        cases h
        exact x_iret (pc := 77) C hret rfl (Nat.zero_le _) (Nat.zero_le _) (d_M_state 43 rfl)
      · rw [if_neg c14] at h
        refine x_aload_n (pc := 19) C (d_M_state 11 rfl) rfl 1 rfl ?_
        refine x_getR (pc := 20) (t := 33) C fl_M_7 rfl rfl (d_M_state 12 rfl) ?_
        refine x_iload_n (pc := 23) C (d_M_state 13 rfl) rfl 2 rfl ?_
        cases c16 : (xsI st 32 x0 0 0).2.2.1 32 x0 1 with
        | none => rw [c16] at h; cases h
        | some i15 =>
          rw [c16] at h
          dsimp only at h
          by_cases b17 : x_in x1 8
          · rw [if_pos b17] at h
            refine x_iald (pc := 24) C ar_33 b17 (d_M_state 14 rfl) ?_
            refine x_goto (pc := 25) (tgt := 77) C (d_M_state 15 rfl) (by decide) ?_
            cases h
            exact x_iret (pc := 77) C hret rfl (Nat.zero_le _) (Nat.zero_le _) (d_M_state 43 rfl)
          · rw [if_neg b17] at h; cases h
def f_M_about (x0 : Nat) (x1 : Int32) (x2 : Int32) (x3 : Int32) (st : XS) : Option (Int32 × XS) :=
  match f_M_in x1 0 7 (xsI st 32 x0 0 0) with
  | none => none
  | some v2 =>
    if v2 = 0 then
      some ((-1), xsI st 32 x0 0 0)
    else
      match f_M_in x2 0 7 (xsI st 32 x0 0 0) with
      | none => none
      | some v5 =>
        if v5 = 0 then
          some ((-1), xsI st 32 x0 0 0)
        else
          match f_M_in x3 0 4 (xsI st 32 x0 0 0) with
          | none => none
          | some v8 =>
            if v8 = 0 then
              some ((-1), xsI st 32 x0 0 0)
            else
              match (xsI st 32 x0 0 0).2.2.1 32 x0 4 with
              | none => none
              | some i10 =>
                if x_in (((8 : Int32) * x1) + x2) 64 then
                  if 0 ≤ ((xsI st 32 x0 0 0).1 36 i10 (((8 : Int32) * x1) + x2).toNatClampNeg) then
                    match (xsI st 32 x0 0 0).2.2.1 32 x0 6 with
                    | none => none
                    | some i14 =>
                      if x_in ((xsI st 32 x0 0 0).1 36 i10 (((8 : Int32) * x1) + x2).toNatClampNeg) 20 then
                        if x3 = 0 then
                          some ((xsI st 32 x0 0 0).1 38 i14 ((xsI st 32 x0 0 0).1 36 i10 (((8 : Int32) * x1) + x2).toNatClampNeg).toNatClampNeg, xsI st 32 x0 0 0)
                        else if x3 = 1 then
                          match f_M_holders x0 ((xsI st 32 x0 0 0).1 36 i10 (((8 : Int32) * x1) + x2).toNatClampNeg) (xsI st 32 x0 0 0) with
                          | none => none
                          | some v20 =>
                            some (v20, xsI st 32 x0 0 0)
                        else if x3 = 2 then
                          if ((xsI st 32 x0 0 0).1 38 i14 ((xsI st 32 x0 0 0).1 36 i10 (((8 : Int32) * x1) + x2).toNatClampNeg).toNatClampNeg) = 3 then
                            match (xsI st 32 x0 0 0).2.2.1 32 x0 7 with
                            | none => none
                            | some i31 =>
                              if x_in ((xsI st 32 x0 0 0).1 36 i10 (((8 : Int32) * x1) + x2).toNatClampNeg) 20 then
                                match (xsI st 32 x0 0 0).2.2.1 32 x0 15 with
                                | none => none
                                | some i34 =>
                                  if x_in ((xsI st 32 x0 0 0).1 39 i31 ((xsI st 32 x0 0 0).1 36 i10 (((8 : Int32) * x1) + x2).toNatClampNeg).toNatClampNeg) 6 then
                                    some ((xsI st 32 x0 0 0).1 47 i34 ((xsI st 32 x0 0 0).1 39 i31 ((xsI st 32 x0 0 0).1 36 i10 (((8 : Int32) * x1) + x2).toNatClampNeg).toNatClampNeg).toNatClampNeg, xsI st 32 x0 0 0)
                                  else none
                              else none
                          else
                            if ((xsI st 32 x0 0 0).1 38 i14 ((xsI st 32 x0 0 0).1 36 i10 (((8 : Int32) * x1) + x2).toNatClampNeg).toNatClampNeg) = 4 then
                              some ((xsI st 32 x0 0 0).1 32 x0 17, xsI st 32 x0 0 0)
                            else
                              match (xsI st 32 x0 0 0).2.2.1 32 x0 7 with
                              | none => none
                              | some i25 =>
                                if x_in ((xsI st 32 x0 0 0).1 36 i10 (((8 : Int32) * x1) + x2).toNatClampNeg) 20 then
                                  match (xsI st 32 x0 0 0).2.2.1 32 x0 10 with
                                  | none => none
                                  | some i28 =>
                                    if x_in ((xsI st 32 x0 0 0).1 39 i25 ((xsI st 32 x0 0 0).1 36 i10 (((8 : Int32) * x1) + x2).toNatClampNeg).toNatClampNeg) 6 then
                                      some ((xsI st 32 x0 0 0).1 42 i28 ((xsI st 32 x0 0 0).1 39 i25 ((xsI st 32 x0 0 0).1 36 i10 (((8 : Int32) * x1) + x2).toNatClampNeg).toNatClampNeg).toNatClampNeg, xsI st 32 x0 0 0)
                                    else none
                                else none
                        else if x3 = 3 then
                          if ((xsI st 32 x0 0 0).1 38 i14 ((xsI st 32 x0 0 0).1 36 i10 (((8 : Int32) * x1) + x2).toNatClampNeg).toNatClampNeg) = 3 then
                            match (xsI st 32 x0 0 0).2.2.1 32 x0 8 with
                            | none => none
                            | some i39 =>
                              if x_in ((xsI st 32 x0 0 0).1 36 i10 (((8 : Int32) * x1) + x2).toNatClampNeg) 20 then
                                some ((xsI st 32 x0 0 0).1 40 i39 ((xsI st 32 x0 0 0).1 36 i10 (((8 : Int32) * x1) + x2).toNatClampNeg).toNatClampNeg, xsI st 32 x0 0 0)
                              else none
                          else
                            some (0, xsI st 32 x0 0 0)
                        else
                          match (xsI st 32 x0 0 0).2.2.1 32 x0 9 with
                          | none => none
                          | some i42 =>
                            if x_in ((xsI st 32 x0 0 0).1 36 i10 (((8 : Int32) * x1) + x2).toNatClampNeg) 20 then
                              some ((xsI st 32 x0 0 0).1 41 i42 ((xsI st 32 x0 0 0).1 36 i10 (((8 : Int32) * x1) + x2).toNatClampNeg).toNatClampNeg, xsI st 32 x0 0 0)
                            else none
                      else none
                  else
                    if x3 = 0 then
                      some (0, xsI st 32 x0 0 0)
                    else
                      some ((-1), xsI st 32 x0 0 0)
                else none
set_option maxRecDepth 100000 in
set_option maxHeartbeats 4000000 in
theorem m_M_about (l : Launch) {x0 : Nat} {x1 : Int32} {x2 : Int32} {x3 : Int32} {st : XS} {r : Int32} {st2 : XS} (h : f_M_about x0 x1 x2 x3 st = some (r, st2)) : x_M l M_M_about rm_M_about [xR 32 (some (x0)), xI (x1), xI (x2), xI (x3)] st (.inl (some (xI r))) st2 0 0 := by
  refine x_enter (Nat.le_of_ble_eq_true rfl) ?_
  intro p e s m below meth c D cA g args B C
  have hret := B.2.2.2.2.2.2.2.2.1
  have hmn := B.2.2.2.2.2.2.2.1
  have hex := B.2.2.2.2.2.2.2.2.2.1
  unfold f_M_about at h
  refine x_aload_n (pc := 0) C (d_M_about 0 rfl) rfl 0 rfl ?_
  refine x_iconst (pc := 1) (v := 0) C (by decide) (d_M_about 1 rfl) ?_
  refine x_putI (pc := 2) C fl_M_66 (pf_M_66 _) rfl ty_32_0 (d_M_about 2 rfl) ?_
  refine x_iload_n (pc := 5) C (d_M_about 3 rfl) rfl 1 rfl ?_
  refine x_iconst (pc := 6) (v := 0) C (by decide) (d_M_about 4 rfl) ?_
  refine x_bipush (pc := 7) (v := 7) C (by decide) (d_M_about 5 rfl) ?_
  cases c1 : f_M_in x1 0 7 (xsI st 32 x0 0 0) with
  | none => rw [c1] at h; cases h
  | some v2 =>
    rw [c1] at h
    dsimp only at h
    refine x_callS (mc := 0) (ms := 0) (pc := 9) (aL := [xI (x1), xI (0), xI (7)]) (K := []) C cs_M_70 (m_M_in l c1 : x_M l _ _ _ _ (.inl (some (xI v2))) _ 0 0) (by decide) rfl (Nat.le_of_ble_eq_true rfl) (d_M_about 6 rfl) ?_
    refine x_if_eq (pc := 12) (tgt := 34) C (d_M_about 7 rfl) (by decide) (fun c3 => ?_) (fun c3 => ?_)
    · rw [if_pos c3] at h
      refine x_iconst (pc := 34) (v := (-1)) C (by decide) (d_M_about 18 rfl) ?_
      cases h
      exact x_iret (pc := 35) C hret rfl (Nat.zero_le _) (Nat.zero_le _) (d_M_about 19 rfl)
    · rw [if_neg c3] at h
      refine x_iload_n (pc := 15) C (d_M_about 8 rfl) rfl 2 rfl ?_
      refine x_iconst (pc := 16) (v := 0) C (by decide) (d_M_about 9 rfl) ?_
      refine x_bipush (pc := 17) (v := 7) C (by decide) (d_M_about 10 rfl) ?_
      cases c4 : f_M_in x2 0 7 (xsI st 32 x0 0 0) with
      | none => rw [c4] at h; cases h
      | some v5 =>
        rw [c4] at h
        dsimp only at h
        refine x_callS (mc := 0) (ms := 0) (pc := 19) (aL := [xI (x2), xI (0), xI (7)]) (K := []) C cs_M_70 (m_M_in l c4 : x_M l _ _ _ _ (.inl (some (xI v5))) _ 0 0) (by decide) rfl (Nat.le_of_ble_eq_true rfl) (d_M_about 11 rfl) ?_
        refine x_if_eq (pc := 22) (tgt := 34) C (d_M_about 12 rfl) (by decide) (fun c6 => ?_) (fun c6 => ?_)
        · rw [if_pos c6] at h
          refine x_iconst (pc := 34) (v := (-1)) C (by decide) (d_M_about 18 rfl) ?_
          cases h
          exact x_iret (pc := 35) C hret rfl (Nat.zero_le _) (Nat.zero_le _) (d_M_about 19 rfl)
        · rw [if_neg c6] at h
          refine x_iload_n (pc := 25) C (d_M_about 13 rfl) rfl 3 rfl ?_
          refine x_iconst (pc := 26) (v := 0) C (by decide) (d_M_about 14 rfl) ?_
          refine x_iconst (pc := 27) (v := 4) C (by decide) (d_M_about 15 rfl) ?_
          cases c7 : f_M_in x3 0 4 (xsI st 32 x0 0 0) with
          | none => rw [c7] at h; cases h
          | some v8 =>
            rw [c7] at h
            dsimp only at h
            refine x_callS (mc := 0) (ms := 0) (pc := 28) (aL := [xI (x3), xI (0), xI (4)]) (K := []) C cs_M_70 (m_M_in l c7 : x_M l _ _ _ _ (.inl (some (xI v8))) _ 0 0) (by decide) rfl (Nat.le_of_ble_eq_true rfl) (d_M_about 16 rfl) ?_
            refine x_if_ne (pc := 31) (tgt := 36) C (d_M_about 17 rfl) (by decide) (fun c9 => ?_) (fun c9 => ?_)
            · rw [if_neg c9] at h
              refine x_aload_n (pc := 36) C (d_M_about 20 rfl) rfl 0 rfl ?_
              refine x_getR (pc := 37) (t := 36) C fl_M_19 rfl rfl (d_M_about 21 rfl) ?_
              refine x_bipush (pc := 40) (v := 8) C (by decide) (d_M_about 22 rfl) ?_
              refine x_iload_n (pc := 42) C (d_M_about 23 rfl) rfl 1 rfl ?_
              refine x_imul (pc := 43) C (d_M_about 24 rfl) ?_
              refine x_iload_n (pc := 44) C (d_M_about 25 rfl) rfl 2 rfl ?_
              refine x_iadd (pc := 45) C (d_M_about 26 rfl) ?_
              cases c11 : (xsI st 32 x0 0 0).2.2.1 32 x0 4 with
              | none => rw [c11] at h; cases h
              | some i10 =>
                rw [c11] at h
                dsimp only at h
                by_cases b12 : x_in (((8 : Int32) * x1) + x2) 64
                · rw [if_pos b12] at h
                  refine x_iald (pc := 46) C ar_36 b12 (d_M_about 27 rfl) ?_
                  refine x_istore (pc := 47) (L2 := [(4, xI ((xsI st 32 x0 0 0).1 36 i10 (((8 : Int32) * x1) + x2).toNatClampNeg)), (0, xR 32 (some (x0))), (1, xI (x1)), (2, xI (x2)), (3, xI (x3))]) C (d_M_about 28 rfl) (by decide) rfl ?_
                  refine x_iload (pc := 49) C (d_M_about 29 rfl) 0 rfl ?_
                  refine x_if_ge (pc := 51) (tgt := 64) C (d_M_about 30 rfl) (by decide) (fun c13 => ?_) (fun c13 => ?_)
                  · rw [if_pos c13] at h
                    refine x_aload_n (pc := 64) C (d_M_about 37 rfl) rfl 1 rfl ?_
                    refine x_getR (pc := 65) (t := 38) C fl_M_26 rfl rfl (d_M_about 38 rfl) ?_
                    refine x_iload (pc := 68) C (d_M_about 39 rfl) 0 rfl ?_
                    cases c15 : (xsI st 32 x0 0 0).2.2.1 32 x0 6 with
                    | none => rw [c15] at h; cases h
                    | some i14 =>
                      rw [c15] at h
                      dsimp only at h
                      by_cases b16 : x_in ((xsI st 32 x0 0 0).1 36 i10 (((8 : Int32) * x1) + x2).toNatClampNeg) 20
                      · rw [if_pos b16] at h
                        refine x_iald (pc := 70) C ar_38 b16 (d_M_about 40 rfl) ?_
                        refine x_istore (pc := 71) (L2 := [(5, xI ((xsI st 32 x0 0 0).1 38 i14 ((xsI st 32 x0 0 0).1 36 i10 (((8 : Int32) * x1) + x2).toNatClampNeg).toNatClampNeg)), (4, xI ((xsI st 32 x0 0 0).1 36 i10 (((8 : Int32) * x1) + x2).toNatClampNeg)), (0, xR 32 (some (x0))), (1, xI (x1)), (2, xI (x2)), (3, xI (x3))]) C (d_M_about 41 rfl) (by decide) rfl ?_
                        refine x_iload_n (pc := 73) C (d_M_about 42 rfl) rfl 5 rfl ?_
                        by_cases c17 : x3 = 0
                        · rw [if_pos c17] at h
                          refine x_tsw (pc := 74) (v := 0) (tgt := 104) C (d_M_about 43 rfl) c17 (by decide) (by decide) rfl (by decide) ?_
                          refine x_iload (pc := 104) C (d_M_about 44 rfl) 0 rfl ?_
                          cases h
                          exact x_iret (pc := 106) C hret rfl (Nat.zero_le _) (Nat.zero_le _) (d_M_about 45 rfl)
                        rw [if_neg c17] at h
                        by_cases c18 : x3 = 1
                        · rw [if_pos c18] at h
                          refine x_tsw (pc := 74) (v := 1) (tgt := 107) C (d_M_about 43 rfl) c18 (by decide) (by decide) rfl (by decide) ?_
                          refine x_aload_n (pc := 107) C (d_M_about 46 rfl) rfl 2 rfl ?_
                          refine x_iload (pc := 108) C (d_M_about 47 rfl) 1 rfl ?_
                          cases c19 : f_M_holders x0 ((xsI st 32 x0 0 0).1 36 i10 (((8 : Int32) * x1) + x2).toNatClampNeg) (xsI st 32 x0 0 0) with
                          | none => rw [c19] at h; cases h
                          | some v20 =>
                            rw [c19] at h
                            dsimp only at h
                            refine x_callV (mc := 0) (ms := 0) (pc := 110) (bL := [xI ((xsI st 32 x0 0 0).1 36 i10 (((8 : Int32) * x1) + x2).toNatClampNeg)]) (K := []) C cs_M_74 (m_M_holders l c19 : x_M l _ _ _ _ (.inl (some (xI v20))) _ 0 0) (by decide) rfl (Nat.le_of_ble_eq_true rfl) (d_M_about 48 rfl) ?_
                            cases h
                            exact x_iret (pc := 113) C hret rfl (Nat.zero_le _) (Nat.zero_le _) (d_M_about 49 rfl)
                        rw [if_neg c18] at h
                        by_cases c22 : x3 = 2
                        · rw [if_pos c22] at h
                          refine x_tsw (pc := 74) (v := 2) (tgt := 114) C (d_M_about 43 rfl) c22 (by decide) (by decide) rfl (by decide) ?_
                          refine x_iload (pc := 114) C (d_M_about 50 rfl) 0 rfl ?_
                          refine x_iconst (pc := 116) (v := 3) C (by decide) (d_M_about 51 rfl) ?_
                          refine x_icmp_ne (pc := 117) (tgt := 135) C (d_M_about 52 rfl) (by decide) (fun c23 => ?_) (fun c23 => ?_)
                          · rw [if_neg c23] at h
                            refine x_iload (pc := 135) C (d_M_about 61 rfl) 0 rfl ?_
                            refine x_iconst (pc := 137) (v := 4) C (by decide) (d_M_about 62 rfl) ?_
                            refine x_icmp_ne (pc := 138) (tgt := 148) C (d_M_about 63 rfl) (by decide) (fun c24 => ?_) (fun c24 => ?_)
                            · rw [if_neg c24] at h
                              refine x_aload_n (pc := 148) C (d_M_about 67 rfl) rfl 2 rfl ?_
                              refine x_getR (pc := 149) (t := 42) C fl_M_38 rfl rfl (d_M_about 68 rfl) ?_
                              refine x_aload_n (pc := 152) C (d_M_about 69 rfl) rfl 2 rfl ?_
                              refine x_getR (pc := 153) (t := 39) C fl_M_29 rfl rfl (d_M_about 70 rfl) ?_
                              refine x_iload (pc := 156) C (d_M_about 71 rfl) 1 rfl ?_
                              cases c26 : (xsI st 32 x0 0 0).2.2.1 32 x0 7 with
                              | none => rw [c26] at h; cases h
                              | some i25 =>
                                rw [c26] at h
                                dsimp only at h
                                by_cases b27 : x_in ((xsI st 32 x0 0 0).1 36 i10 (((8 : Int32) * x1) + x2).toNatClampNeg) 20
                                · rw [if_pos b27] at h
                                  refine x_iald (pc := 158) C ar_39 b27 (d_M_about 72 rfl) ?_
                                  cases c29 : (xsI st 32 x0 0 0).2.2.1 32 x0 10 with
                                  | none => rw [c29] at h; cases h
                                  | some i28 =>
                                    rw [c29] at h
                                    dsimp only at h
                                    by_cases b30 : x_in ((xsI st 32 x0 0 0).1 39 i25 ((xsI st 32 x0 0 0).1 36 i10 (((8 : Int32) * x1) + x2).toNatClampNeg).toNatClampNeg) 6
                                    · rw [if_pos b30] at h
                                      refine x_iald (pc := 159) C ar_42 b30 (d_M_about 73 rfl) ?_
                                      cases h
                                      exact x_iret (pc := 160) C hret rfl (Nat.zero_le _) (Nat.zero_le _) (d_M_about 74 rfl)
                                    · rw [if_neg b30] at h; cases h
                                · rw [if_neg b27] at h; cases h
                            · rw [if_pos c24] at h
                              refine x_aload_n (pc := 141) C (d_M_about 64 rfl) rfl 2 rfl ?_
                              refine x_getI (pc := 142) C fl_M_120 rfl (d_M_about 65 rfl) ?_
                              refine x_goto (pc := 145) (tgt := 160) C (d_M_about 66 rfl) (by decide) ?_
                              cases h
                              exact x_iret (pc := 160) C hret rfl (Nat.zero_le _) (Nat.zero_le _) (d_M_about 74 rfl)
                          · rw [if_pos c23] at h
                            refine x_aload_n (pc := 120) C (d_M_about 53 rfl) rfl 2 rfl ?_
                            refine x_getR (pc := 121) (t := 47) C fl_M_54 rfl rfl (d_M_about 54 rfl) ?_
                            refine x_aload_n (pc := 124) C (d_M_about 55 rfl) rfl 2 rfl ?_
                            refine x_getR (pc := 125) (t := 39) C fl_M_29 rfl rfl (d_M_about 56 rfl) ?_
                            refine x_iload (pc := 128) C (d_M_about 57 rfl) 1 rfl ?_
                            cases c32 : (xsI st 32 x0 0 0).2.2.1 32 x0 7 with
                            | none => rw [c32] at h; cases h
                            | some i31 =>
                              rw [c32] at h
                              dsimp only at h
                              by_cases b33 : x_in ((xsI st 32 x0 0 0).1 36 i10 (((8 : Int32) * x1) + x2).toNatClampNeg) 20
                              · rw [if_pos b33] at h
                                refine x_iald (pc := 130) C ar_39 b33 (d_M_about 58 rfl) ?_
                                cases c35 : (xsI st 32 x0 0 0).2.2.1 32 x0 15 with
                                | none => rw [c35] at h; cases h
                                | some i34 =>
                                  rw [c35] at h
                                  dsimp only at h
                                  by_cases b36 : x_in ((xsI st 32 x0 0 0).1 39 i31 ((xsI st 32 x0 0 0).1 36 i10 (((8 : Int32) * x1) + x2).toNatClampNeg).toNatClampNeg) 6
                                  · rw [if_pos b36] at h
                                    refine x_iald (pc := 131) C ar_47 b36 (d_M_about 59 rfl) ?_
                                    refine x_goto (pc := 132) (tgt := 160) C (d_M_about 60 rfl) (by decide) ?_
                                    cases h
                                    exact x_iret (pc := 160) C hret rfl (Nat.zero_le _) (Nat.zero_le _) (d_M_about 74 rfl)
                                  · rw [if_neg b36] at h; cases h
                              · rw [if_neg b33] at h; cases h
                        rw [if_neg c22] at h
                        by_cases c37 : x3 = 3
                        · rw [if_pos c37] at h
                          refine x_tsw (pc := 74) (v := 3) (tgt := 161) C (d_M_about 43 rfl) c37 (by decide) (by decide) rfl (by decide) ?_
                          refine x_iload (pc := 161) C (d_M_about 75 rfl) 0 rfl ?_
                          refine x_iconst (pc := 163) (v := 3) C (by decide) (d_M_about 76 rfl) ?_
                          refine x_icmp_ne (pc := 164) (tgt := 177) C (d_M_about 77 rfl) (by decide) (fun c38 => ?_) (fun c38 => ?_)
                          · rw [if_neg c38] at h
                            refine x_iconst (pc := 177) (v := 0) C (by decide) (d_M_about 83 rfl) ?_
                            cases h
                            exact x_iret (pc := 178) C hret rfl (Nat.zero_le _) (Nat.zero_le _) (d_M_about 84 rfl)
                          · rw [if_pos c38] at h
                            refine x_aload_n (pc := 167) C (d_M_about 78 rfl) rfl 2 rfl ?_
                            refine x_getR (pc := 168) (t := 40) C fl_M_32 rfl rfl (d_M_about 79 rfl) ?_
                            refine x_iload (pc := 171) C (d_M_about 80 rfl) 1 rfl ?_
                            cases c40 : (xsI st 32 x0 0 0).2.2.1 32 x0 8 with
                            | none => rw [c40] at h; cases h
                            | some i39 =>
                              rw [c40] at h
                              dsimp only at h
                              by_cases b41 : x_in ((xsI st 32 x0 0 0).1 36 i10 (((8 : Int32) * x1) + x2).toNatClampNeg) 20
                              · rw [if_pos b41] at h
                                refine x_iald (pc := 173) C ar_40 b41 (d_M_about 81 rfl) ?_
                                refine x_goto (pc := 174) (tgt := 178) C (d_M_about 82 rfl) (by decide) ?_
                                cases h
                                exact x_iret (pc := 178) C hret rfl (Nat.zero_le _) (Nat.zero_le _) (d_M_about 84 rfl)
                              · rw [if_neg b41] at h; cases h
                        rw [if_neg c37] at h
                        refine x_tout (pc := 74) (tgt := 179) C (d_M_about 43 rfl) (x_swo (fun k h1 h2 => by
                            have h3 : k = 0 ∨ k = 1 ∨ k = 2 ∨ k = 3 := by omega
                            rcases h3 with rfl | rfl | rfl | rfl <;> assumption)) (by decide) ?_
                        refine x_aload_n (pc := 179) C (d_M_about 85 rfl) rfl 2 rfl ?_
                        refine x_getR (pc := 180) (t := 41) C fl_M_35 rfl rfl (d_M_about 86 rfl) ?_
                        refine x_iload (pc := 183) C (d_M_about 87 rfl) 1 rfl ?_
                        cases c43 : (xsI st 32 x0 0 0).2.2.1 32 x0 9 with
                        | none => rw [c43] at h; cases h
                        | some i42 =>
                          rw [c43] at h
                          dsimp only at h
                          by_cases b44 : x_in ((xsI st 32 x0 0 0).1 36 i10 (((8 : Int32) * x1) + x2).toNatClampNeg) 20
                          · rw [if_pos b44] at h
                            refine x_iald (pc := 185) C ar_41 b44 (d_M_about 88 rfl) ?_
                            cases h
                            exact x_iret (pc := 186) C hret rfl (Nat.zero_le _) (Nat.zero_le _) (d_M_about 89 rfl)
                          · rw [if_neg b44] at h; cases h
                      · rw [if_neg b16] at h; cases h
                  · rw [if_neg c13] at h
                    refine x_iload_n (pc := 54) C (d_M_about 31 rfl) rfl 4 rfl ?_
                    refine x_if_ne (pc := 55) (tgt := 62) C (d_M_about 32 rfl) (by decide) (fun c45 => ?_) (fun c45 => ?_)
                    · rw [if_neg c45] at h
                      refine x_iconst (pc := 62) (v := (-1)) C (by decide) (d_M_about 35 rfl) ?_
                      cases h
                      exact x_iret (pc := 63) C hret rfl (Nat.zero_le _) (Nat.zero_le _) (d_M_about 36 rfl)
                    · rw [if_pos c45] at h
                      refine x_iconst (pc := 58) (v := 0) C (by decide) (d_M_about 33 rfl) ?_
                      refine x_goto (pc := 59) (tgt := 63) C (d_M_about 34 rfl) (by decide) ?_
                      cases h
                      exact x_iret (pc := 63) C hret rfl (Nat.zero_le _) (Nat.zero_le _) (d_M_about 36 rfl)
                · rw [if_neg b12] at h; cases h
            · rw [if_pos c9] at h
              refine x_iconst (pc := 34) (v := (-1)) C (by decide) (d_M_about 18 rfl) ?_
              cases h
              exact x_iret (pc := 35) C hret rfl (Nat.zero_le _) (Nat.zero_le _) (d_M_about 19 rfl)
def f_M_isOnly_72 (k6 : Nat → Int32 → Int32 → Int32 → Int32 → Int32 → XS → Option Int32) (x0 : Nat) (x1 : Int32) (x2 : Int32) (x3 : Int32) (x4 : Int32) (x5 : Int32) (s0 : Int32) (st : XS) : Option Int32 :=
  if x4 = 0 then
    k6 x0 x1 x2 x3 0 (x5 + 1) st
  else
    if s0 = 0 then
      k6 x0 x1 x2 x3 1 (x5 + 1) st
    else
      if ((x3 >>> ((x5 / (8 : Int32)) &&& 31)) &&& (1 : Int32)) = 1 then
        k6 x0 x1 x2 x3 1 (x5 + 1) st
      else
        k6 x0 x1 x2 x3 0 (x5 + 1) st
set_option maxRecDepth 100000 in
set_option maxHeartbeats 4000000 in
theorem v_M_isOnly_72 {p : Program} {l : Launch} {e : Env} {s : State} {m : MethodId} {args : Array Value} {below : List Frame} {meth : Method} {c : Code} {D : va_G} {cA : Nat → ClassId} {g0 : Nat → Nat → Nat} {n0 : Nat → Nat} {r : Int32} (C : x_C p e rm_M_isOnly s m args meth c D cA (x_A g0 n0 s.heap.size) M_M_isOnly.2.1 M_M_isOnly.1 M_M_isOnly.2.2.1) (hret : meth.sig.returnType = M_M_isOnly.2.2.2.1) (hmn : meth.name = M_M_isOnly.2.2.2.2.2) (hex : c.exceptionTable.toList.map (fun h => (h.startPc, h.endPc, h.handlerPc, h.catchType)) = M_M_isOnly.2.2.2.2.1) {k6 : Nat → Int32 → Int32 → Int32 → Int32 → Int32 → XS → Option Int32} (hk6 : ∀ (x0 : Nat) (x1 : Int32) (x2 : Int32) (x3 : Int32) (x4 : Int32) (x5 : Int32) (st : XS), k6 x0 x1 x2 x3 x4 x5 st = some r → x_V p l e rm_M_isOnly s m args below meth c D cA (x_A g0 n0 s.heap.size) M_M_isOnly.2.2.1 g0 n0 (x_MQ D cA g0 n0 below s 0 0 (.inl (some (xI r))) st) 6 [(0, xR 32 (some (x0))), (1, xI (x1)), (2, xI (x2)), (3, xI (x3)), (4, xI (x4)), (5, xI (x5))] [] st 0 0) (x0 : Nat) (x1 : Int32) (x2 : Int32) (x3 : Int32) (x4 : Int32) (x5 : Int32) (s0 : Int32) (st : XS) (h : f_M_isOnly_72 k6 x0 x1 x2 x3 x4 x5 s0 st = some r) : x_V p l e rm_M_isOnly s m args below meth c D cA (x_A g0 n0 s.heap.size) M_M_isOnly.2.2.1 g0 n0 (x_MQ D cA g0 n0 below s 0 0 (.inl (some (xI r))) st) 72 [(0, xR 32 (some (x0))), (1, xI (x1)), (2, xI (x2)), (3, xI (x3)), (4, xI (x4)), (5, xI (x5))] [xI (s0)] st 0 0 := by
  unfold f_M_isOnly_72 at h
  refine x_istore (pc := 72) (L2 := [(7, xI (s0)), (0, xR 32 (some (x0))), (1, xI (x1)), (2, xI (x2)), (3, xI (x3)), (4, xI (x4)), (5, xI (x5))]) C (d_M_isOnly 37 rfl) (by decide) rfl ?_
  refine x_iload (pc := 74) C (d_M_isOnly 38 rfl) 5 rfl ?_
  refine x_if_eq (pc := 76) (tgt := 101) C (d_M_isOnly 39 rfl) (by decide) (fun c1 => ?_) (fun c1 => ?_)
  · rw [if_pos c1] at h
    refine x_iconst (pc := 101) (v := 0) C (by decide) (d_M_isOnly 53 rfl) ?_
    refine x_istore (pc := 102) (L2 := [(4, xI (0)), (7, xI (s0)), (0, xR 32 (some (x0))), (1, xI (x1)), (2, xI (x2)), (3, xI (x3)), (5, xI (x5))]) C (d_M_isOnly 54 rfl) (by decide) rfl ?_
    refine x_iinc (pc := 104) (v := x5 + 1) (L2 := [(5, xI (x5 + 1)), (4, xI (0)), (7, xI (s0)), (0, xR 32 (some (x0))), (1, xI (x1)), (2, xI (x2)), (3, xI (x3))]) C (d_M_isOnly 55 rfl) 6 rfl rfl (by decide) rfl ?_
    refine x_goto (pc := 107) (tgt := 6) C (d_M_isOnly 56 rfl) (by decide) ?_
    exact x_sub [3, 4, 5, 6, 1, 0] rfl (hk6 _ _ _ _ _ _ _ h)
  · rw [if_neg c1] at h
    refine x_iload (pc := 79) C (d_M_isOnly 40 rfl) 0 rfl ?_
    refine x_if_eq (pc := 81) (tgt := 97) C (d_M_isOnly 41 rfl) (by decide) (fun c2 => ?_) (fun c2 => ?_)
    · rw [if_pos c2] at h
      refine x_iconst (pc := 97) (v := 1) C (by decide) (d_M_isOnly 51 rfl) ?_
      refine x_goto (pc := 98) (tgt := 102) C (d_M_isOnly 52 rfl) (by decide) ?_
      refine x_istore (pc := 102) (L2 := [(4, xI (1)), (7, xI (s0)), (0, xR 32 (some (x0))), (1, xI (x1)), (2, xI (x2)), (3, xI (x3)), (5, xI (x5))]) C (d_M_isOnly 54 rfl) (by decide) rfl ?_
      refine x_iinc (pc := 104) (v := x5 + 1) (L2 := [(5, xI (x5 + 1)), (4, xI (1)), (7, xI (s0)), (0, xR 32 (some (x0))), (1, xI (x1)), (2, xI (x2)), (3, xI (x3))]) C (d_M_isOnly 55 rfl) 6 rfl rfl (by decide) rfl ?_
      refine x_goto (pc := 107) (tgt := 6) C (d_M_isOnly 56 rfl) (by decide) ?_
      exact x_sub [3, 4, 5, 6, 1, 0] rfl (hk6 _ _ _ _ _ _ _ h)
    · rw [if_neg c2] at h
      refine x_iload_n (pc := 84) C (d_M_isOnly 42 rfl) rfl 4 rfl ?_
      refine x_iload (pc := 85) C (d_M_isOnly 43 rfl) 6 rfl ?_
      refine x_bipush (pc := 87) (v := 8) C (by decide) (d_M_isOnly 44 rfl) ?_
      refine x_idiv (pc := 89) C (by decide) (d_M_isOnly 45 rfl) ?_
      refine x_ishr (pc := 90) C (d_M_isOnly 46 rfl) ?_
      refine x_iconst (pc := 91) (v := 1) C (by decide) (d_M_isOnly 47 rfl) ?_
      refine x_iand (pc := 92) C (d_M_isOnly 48 rfl) ?_
      refine x_iconst (pc := 93) (v := 1) C (by decide) (d_M_isOnly 49 rfl) ?_
      refine x_icmp_ne (pc := 94) (tgt := 101) C (d_M_isOnly 50 rfl) (by decide) (fun c3 => ?_) (fun c3 => ?_)
      · rw [if_neg c3] at h
        refine x_iconst (pc := 101) (v := 0) C (by decide) (d_M_isOnly 53 rfl) ?_
        refine x_istore (pc := 102) (L2 := [(4, xI (0)), (7, xI (s0)), (0, xR 32 (some (x0))), (1, xI (x1)), (2, xI (x2)), (3, xI (x3)), (5, xI (x5))]) C (d_M_isOnly 54 rfl) (by decide) rfl ?_
        refine x_iinc (pc := 104) (v := x5 + 1) (L2 := [(5, xI (x5 + 1)), (4, xI (0)), (7, xI (s0)), (0, xR 32 (some (x0))), (1, xI (x1)), (2, xI (x2)), (3, xI (x3))]) C (d_M_isOnly 55 rfl) 6 rfl rfl (by decide) rfl ?_
        refine x_goto (pc := 107) (tgt := 6) C (d_M_isOnly 56 rfl) (by decide) ?_
        exact x_sub [3, 4, 5, 6, 1, 0] rfl (hk6 _ _ _ _ _ _ _ h)
      · rw [if_pos c3] at h
        refine x_iconst (pc := 97) (v := 1) C (by decide) (d_M_isOnly 51 rfl) ?_
        refine x_goto (pc := 98) (tgt := 102) C (d_M_isOnly 52 rfl) (by decide) ?_
        refine x_istore (pc := 102) (L2 := [(4, xI (1)), (7, xI (s0)), (0, xR 32 (some (x0))), (1, xI (x1)), (2, xI (x2)), (3, xI (x3)), (5, xI (x5))]) C (d_M_isOnly 54 rfl) (by decide) rfl ?_
        refine x_iinc (pc := 104) (v := x5 + 1) (L2 := [(5, xI (x5 + 1)), (4, xI (1)), (7, xI (s0)), (0, xR 32 (some (x0))), (1, xI (x1)), (2, xI (x2)), (3, xI (x3))]) C (d_M_isOnly 55 rfl) 6 rfl rfl (by decide) rfl ?_
        refine x_goto (pc := 107) (tgt := 6) C (d_M_isOnly 56 rfl) (by decide) ?_
        exact x_sub [3, 4, 5, 6, 1, 0] rfl (hk6 _ _ _ _ _ _ _ h)
def f_M_isOnly_42 (k6 : Nat → Int32 → Int32 → Int32 → Int32 → Int32 → XS → Option Int32) (x0 : Nat) (x1 : Int32) (x2 : Int32) (x3 : Int32) (x4 : Int32) (x5 : Int32) (x6 : Int32) (s0 : Int32) (s1 : Option Nat) (st : XS) : Option Int32 :=
  match s1 with
  | none => none
  | some i4 =>
    if x_in s0 20 then
      if (st.1 38 i4 s0.toNatClampNeg) = x1 then
        if 0 ≤ x6 then
          match st.2.2.1 32 x0 7 with
          | none => none
          | some i9 =>
            if x_in x6 20 then
              if (st.1 39 i9 x6.toNatClampNeg) = x2 then
                f_M_isOnly_72 k6 x0 x1 x2 x3 x4 x5 1 st
              else
                f_M_isOnly_72 k6 x0 x1 x2 x3 x4 x5 0 st
            else none
        else
          match st.2.2.1 32 x0 7 with
          | none => none
          | some i13 =>
            if x_in 0 20 then
              if (st.1 39 i13 (0 : Int32).toNatClampNeg) = x2 then
                f_M_isOnly_72 k6 x0 x1 x2 x3 x4 x5 1 st
              else
                f_M_isOnly_72 k6 x0 x1 x2 x3 x4 x5 0 st
            else none
      else
        f_M_isOnly_72 k6 x0 x1 x2 x3 x4 x5 0 st
    else none
set_option maxRecDepth 100000 in
set_option maxHeartbeats 4000000 in
theorem v_M_isOnly_42 {p : Program} {l : Launch} {e : Env} {s : State} {m : MethodId} {args : Array Value} {below : List Frame} {meth : Method} {c : Code} {D : va_G} {cA : Nat → ClassId} {g0 : Nat → Nat → Nat} {n0 : Nat → Nat} {r : Int32} (C : x_C p e rm_M_isOnly s m args meth c D cA (x_A g0 n0 s.heap.size) M_M_isOnly.2.1 M_M_isOnly.1 M_M_isOnly.2.2.1) (hret : meth.sig.returnType = M_M_isOnly.2.2.2.1) (hmn : meth.name = M_M_isOnly.2.2.2.2.2) (hex : c.exceptionTable.toList.map (fun h => (h.startPc, h.endPc, h.handlerPc, h.catchType)) = M_M_isOnly.2.2.2.2.1) {k6 : Nat → Int32 → Int32 → Int32 → Int32 → Int32 → XS → Option Int32} (hk6 : ∀ (x0 : Nat) (x1 : Int32) (x2 : Int32) (x3 : Int32) (x4 : Int32) (x5 : Int32) (st : XS), k6 x0 x1 x2 x3 x4 x5 st = some r → x_V p l e rm_M_isOnly s m args below meth c D cA (x_A g0 n0 s.heap.size) M_M_isOnly.2.2.1 g0 n0 (x_MQ D cA g0 n0 below s 0 0 (.inl (some (xI r))) st) 6 [(0, xR 32 (some (x0))), (1, xI (x1)), (2, xI (x2)), (3, xI (x3)), (4, xI (x4)), (5, xI (x5))] [] st 0 0) (x0 : Nat) (x1 : Int32) (x2 : Int32) (x3 : Int32) (x4 : Int32) (x5 : Int32) (x6 : Int32) (s0 : Int32) (s1 : Option Nat) (st : XS) (h : f_M_isOnly_42 k6 x0 x1 x2 x3 x4 x5 x6 s0 s1 st = some r) : x_V p l e rm_M_isOnly s m args below meth c D cA (x_A g0 n0 s.heap.size) M_M_isOnly.2.2.1 g0 n0 (x_MQ D cA g0 n0 below s 0 0 (.inl (some (xI r))) st) 42 [(0, xR 32 (some (x0))), (1, xI (x1)), (2, xI (x2)), (3, xI (x3)), (4, xI (x4)), (5, xI (x5)), (6, xI (x6))] [xI (s0), xR 38 (s1)] st 0 0 := by
  unfold f_M_isOnly_42 at h
  cases c5 : s1 with
  | none => rw [c5] at h; cases h
  | some i4 =>
    rw [c5] at h
    dsimp only at h
    by_cases b6 : x_in s0 20
    · rw [if_pos b6] at h
      refine x_iald (pc := 42) C ar_38 b6 (d_M_isOnly 21 rfl) ?_
      refine x_iload_n (pc := 43) C (d_M_isOnly 22 rfl) rfl 1 rfl ?_
      refine x_icmp_ne (pc := 44) (tgt := 71) C (d_M_isOnly 23 rfl) (by decide) (fun c7 => ?_) (fun c7 => ?_)
      · rw [if_neg c7] at h
        refine x_iconst (pc := 71) (v := 0) C (by decide) (d_M_isOnly 36 rfl) ?_
        exact x_sub [0, 1, 2, 3, 4, 5] rfl (v_M_isOnly_72 C hret hmn hex hk6 _ _ _ _ _ _ _ _ h)
      · rw [if_pos c7] at h
        refine x_aload_n (pc := 47) C (d_M_isOnly 24 rfl) rfl 0 rfl ?_
        refine x_getR (pc := 48) (t := 39) C fl_M_29 rfl rfl (d_M_isOnly 25 rfl) ?_
        refine x_iload (pc := 51) C (d_M_isOnly 26 rfl) 6 rfl ?_
        refine x_if_ge (pc := 53) (tgt := 60) C (d_M_isOnly 27 rfl) (by decide) (fun c8 => ?_) (fun c8 => ?_)
        · rw [if_pos c8] at h
          refine x_iload (pc := 60) C (d_M_isOnly 30 rfl) 6 rfl ?_
          cases c10 : st.2.2.1 32 x0 7 with
          | none => rw [c10] at h; cases h
          | some i9 =>
            rw [c10] at h
            dsimp only at h
            by_cases b11 : x_in x6 20
            · rw [if_pos b11] at h
              refine x_iald (pc := 62) C ar_39 b11 (d_M_isOnly 31 rfl) ?_
              refine x_iload_n (pc := 63) C (d_M_isOnly 32 rfl) rfl 2 rfl ?_
              refine x_icmp_ne (pc := 64) (tgt := 71) C (d_M_isOnly 33 rfl) (by decide) (fun c12 => ?_) (fun c12 => ?_)
              · rw [if_neg c12] at h
                refine x_iconst (pc := 71) (v := 0) C (by decide) (d_M_isOnly 36 rfl) ?_
                exact x_sub [0, 1, 2, 3, 4, 5] rfl (v_M_isOnly_72 C hret hmn hex hk6 _ _ _ _ _ _ _ _ h)
              · rw [if_pos c12] at h
                refine x_iconst (pc := 67) (v := 1) C (by decide) (d_M_isOnly 34 rfl) ?_
                refine x_goto (pc := 68) (tgt := 72) C (d_M_isOnly 35 rfl) (by decide) ?_
                exact x_sub [0, 1, 2, 3, 4, 5] rfl (v_M_isOnly_72 C hret hmn hex hk6 _ _ _ _ _ _ _ _ h)
            · rw [if_neg b11] at h; cases h
        · rw [if_neg c8] at h
          refine x_iconst (pc := 56) (v := 0) C (by decide) (d_M_isOnly 28 rfl) ?_
          refine x_goto (pc := 57) (tgt := 62) C (d_M_isOnly 29 rfl) (by decide) ?_
          cases c14 : st.2.2.1 32 x0 7 with
          | none => rw [c14] at h; cases h
          | some i13 =>
            rw [c14] at h
            dsimp only at h
            by_cases b15 : x_in 0 20
            · rw [if_pos b15] at h
              refine x_iald (pc := 62) C ar_39 b15 (d_M_isOnly 31 rfl) ?_
              refine x_iload_n (pc := 63) C (d_M_isOnly 32 rfl) rfl 2 rfl ?_
              refine x_icmp_ne (pc := 64) (tgt := 71) C (d_M_isOnly 33 rfl) (by decide) (fun c16 => ?_) (fun c16 => ?_)
              · rw [if_neg c16] at h
                refine x_iconst (pc := 71) (v := 0) C (by decide) (d_M_isOnly 36 rfl) ?_
                exact x_sub [0, 1, 2, 3, 4, 5] rfl (v_M_isOnly_72 C hret hmn hex hk6 _ _ _ _ _ _ _ _ h)
              · rw [if_pos c16] at h
                refine x_iconst (pc := 67) (v := 1) C (by decide) (d_M_isOnly 34 rfl) ?_
                refine x_goto (pc := 68) (tgt := 72) C (d_M_isOnly 35 rfl) (by decide) ?_
                exact x_sub [0, 1, 2, 3, 4, 5] rfl (v_M_isOnly_72 C hret hmn hex hk6 _ _ _ _ _ _ _ _ h)
            · rw [if_neg b15] at h; cases h
    · rw [if_neg b6] at h; cases h
def f_M_isOnly_6  : Nat → Nat → Int32 → Int32 → Int32 → Int32 → Int32 → XS → Option Int32
  | 0, _, _, _, _, _, _, _ => none
  | n + 1, x0, x1, x2, x3, x4, x5, st =>
    if 64 ≤ x5 then
      if (x4) &&& 1 = x4 then
        some (x4)
      else none
    else
      match st.2.2.1 32 x0 4 with
      | none => none
      | some i19 =>
        if x_in x5 64 then
          if (st.1 36 i19 x5.toNatClampNeg) < 0 then
            f_M_isOnly_72 (fun a0 a1 a2 a3 a4 a5 a6 => f_M_isOnly_6 n a0 a1 a2 a3 a4 a5 a6) x0 x1 x2 x3 x4 x5 0 st
          else
            if 0 ≤ (st.1 36 i19 x5.toNatClampNeg) then
              f_M_isOnly_42 (fun a0 a1 a2 a3 a4 a5 a6 => f_M_isOnly_6 n a0 a1 a2 a3 a4 a5 a6) x0 x1 x2 x3 x4 x5 (st.1 36 i19 x5.toNatClampNeg) (st.1 36 i19 x5.toNatClampNeg) (st.2.2.1 32 x0 6) st
            else
              f_M_isOnly_42 (fun a0 a1 a2 a3 a4 a5 a6 => f_M_isOnly_6 n a0 a1 a2 a3 a4 a5 a6) x0 x1 x2 x3 x4 x5 (st.1 36 i19 x5.toNatClampNeg) 0 (st.2.2.1 32 x0 6) st
        else none
set_option maxRecDepth 100000 in
set_option maxHeartbeats 4000000 in
theorem v_M_isOnly_6 {p : Program} {l : Launch} {e : Env} {s : State} {m : MethodId} {args : Array Value} {below : List Frame} {meth : Method} {c : Code} {D : va_G} {cA : Nat → ClassId} {g0 : Nat → Nat → Nat} {n0 : Nat → Nat} {r : Int32} (C : x_C p e rm_M_isOnly s m args meth c D cA (x_A g0 n0 s.heap.size) M_M_isOnly.2.1 M_M_isOnly.1 M_M_isOnly.2.2.1) (hret : meth.sig.returnType = M_M_isOnly.2.2.2.1) (hmn : meth.name = M_M_isOnly.2.2.2.2.2) (hex : c.exceptionTable.toList.map (fun h => (h.startPc, h.endPc, h.handlerPc, h.catchType)) = M_M_isOnly.2.2.2.2.1)  : ∀ (n : Nat) (x0 : Nat) (x1 : Int32) (x2 : Int32) (x3 : Int32) (x4 : Int32) (x5 : Int32) (st : XS), f_M_isOnly_6 n x0 x1 x2 x3 x4 x5 st = some r → x_V p l e rm_M_isOnly s m args below meth c D cA (x_A g0 n0 s.heap.size) M_M_isOnly.2.2.1 g0 n0 (x_MQ D cA g0 n0 below s 0 0 (.inl (some (xI r))) st) 6 [(0, xR 32 (some (x0))), (1, xI (x1)), (2, xI (x2)), (3, xI (x3)), (4, xI (x4)), (5, xI (x5))] [] st 0 0 := by
  intro n
  induction n with
  | zero => intro x0 x1 x2 x3 x4 x5 st h; cases h
  | succ n ih =>
    intro x0 x1 x2 x3 x4 x5 st h
    rw [f_M_isOnly_6.eq_def] at h
    dsimp only at h
    refine x_iload (pc := 6) C (d_M_isOnly 4 rfl) 5 rfl ?_
    refine x_bipush (pc := 8) (v := 64) C (by decide) (d_M_isOnly 5 rfl) ?_
    refine x_icmp_ge (pc := 10) (tgt := 110) C (d_M_isOnly 6 rfl) (by decide) (fun c17 => ?_) (fun c17 => ?_)
    · rw [if_pos c17] at h
      refine x_iload (pc := 110) C (d_M_isOnly 57 rfl) 4 rfl ?_
      by_cases b18 : (x4) &&& 1 = x4
      · rw [if_pos b18] at h
        cases h
        exact x_iret (pc := 112) C hret (by show Value.int _ = _; rw [b18]) (Nat.zero_le _) (Nat.zero_le _) (d_M_isOnly 58 rfl)
      · rw [if_neg b18] at h; cases h
    · rw [if_neg c17] at h
      refine x_aload_n (pc := 13) C (d_M_isOnly 7 rfl) rfl 0 rfl ?_
      refine x_getR (pc := 14) (t := 36) C fl_M_19 rfl rfl (d_M_isOnly 8 rfl) ?_
      refine x_iload (pc := 17) C (d_M_isOnly 9 rfl) 5 rfl ?_
      cases c20 : st.2.2.1 32 x0 4 with
      | none => rw [c20] at h; cases h
      | some i19 =>
        rw [c20] at h
        dsimp only at h
        by_cases b21 : x_in x5 64
        · rw [if_pos b21] at h
          refine x_iald (pc := 19) C ar_36 b21 (d_M_isOnly 10 rfl) ?_
          refine x_istore (pc := 20) (L2 := [(6, xI (st.1 36 i19 x5.toNatClampNeg)), (0, xR 32 (some (x0))), (1, xI (x1)), (2, xI (x2)), (3, xI (x3)), (4, xI (x4)), (5, xI (x5))]) C (d_M_isOnly 11 rfl) (by decide) rfl ?_
          refine x_iload (pc := 22) C (d_M_isOnly 12 rfl) 0 rfl ?_
          refine x_if_lt (pc := 24) (tgt := 71) C (d_M_isOnly 13 rfl) (by decide) (fun c22 => ?_) (fun c22 => ?_)
          · rw [if_pos c22] at h
            refine x_iconst (pc := 71) (v := 0) C (by decide) (d_M_isOnly 36 rfl) ?_
            exact x_sub [1, 2, 3, 4, 5, 6] rfl (v_M_isOnly_72 C hret hmn hex (fun a0 a1 a2 a3 a4 a5 a6 hh => ih a0 a1 a2 a3 a4 a5 a6 hh) _ _ _ _ _ _ _ _ h)
          · rw [if_neg c22] at h
            refine x_aload_n (pc := 27) C (d_M_isOnly 14 rfl) rfl 1 rfl ?_
            refine x_getR (pc := 28) (t := 38) C fl_M_26 rfl rfl (d_M_isOnly 15 rfl) ?_
            refine x_iload (pc := 31) C (d_M_isOnly 16 rfl) 0 rfl ?_
            refine x_if_ge (pc := 33) (tgt := 40) C (d_M_isOnly 17 rfl) (by decide) (fun c23 => ?_) (fun c23 => ?_)
            · rw [if_pos c23] at h
              refine x_iload (pc := 40) C (d_M_isOnly 20 rfl) 0 rfl ?_
              exact x_sub [1, 2, 3, 4, 5, 6, 0] rfl (v_M_isOnly_42 C hret hmn hex (fun a0 a1 a2 a3 a4 a5 a6 hh => ih a0 a1 a2 a3 a4 a5 a6 hh) _ _ _ _ _ _ _ _ _ _ h)
            · rw [if_neg c23] at h
              refine x_iconst (pc := 36) (v := 0) C (by decide) (d_M_isOnly 18 rfl) ?_
              refine x_goto (pc := 37) (tgt := 42) C (d_M_isOnly 19 rfl) (by decide) ?_
              exact x_sub [1, 2, 3, 4, 5, 6, 0] rfl (v_M_isOnly_42 C hret hmn hex (fun a0 a1 a2 a3 a4 a5 a6 hh => ih a0 a1 a2 a3 a4 a5 a6 hh) _ _ _ _ _ _ _ _ _ _ h)
        · rw [if_neg b21] at h; cases h
def f_M_isOnly (x0 : Nat) (x1 : Int32) (x2 : Int32) (x3 : Int32) (st : XS) : Option Int32 :=
  f_M_isOnly_6 100 x0 x1 x2 x3 1 0 st
set_option maxRecDepth 100000 in
set_option maxHeartbeats 4000000 in
theorem m_M_isOnly (l : Launch) {x0 : Nat} {x1 : Int32} {x2 : Int32} {x3 : Int32} {st : XS} {r : Int32} (h : f_M_isOnly x0 x1 x2 x3 st = some r) : x_M l M_M_isOnly rm_M_isOnly [xR 32 (some (x0)), xI (x1), xI (x2), xI (x3)] st (.inl (some (xI r))) st 0 0 := by
  refine x_enter (Nat.le_of_ble_eq_true rfl) ?_
  intro p e s m below meth c D cA g args B C
  have hret := B.2.2.2.2.2.2.2.2.1
  have hmn := B.2.2.2.2.2.2.2.1
  have hex := B.2.2.2.2.2.2.2.2.2.1
  unfold f_M_isOnly at h
  refine x_iconst (pc := 0) (v := 1) C (by decide) (d_M_isOnly 0 rfl) ?_
  refine x_istore (pc := 1) (L2 := [(4, xI (1)), (0, xR 32 (some (x0))), (1, xI (x1)), (2, xI (x2)), (3, xI (x3))]) C (d_M_isOnly 1 rfl) (by decide) rfl ?_
  refine x_iconst (pc := 3) (v := 0) C (by decide) (d_M_isOnly 2 rfl) ?_
  refine x_istore (pc := 4) (L2 := [(5, xI (0)), (4, xI (1)), (0, xR 32 (some (x0))), (1, xI (x1)), (2, xI (x2)), (3, xI (x3))]) C (d_M_isOnly 3 rfl) (by decide) rfl ?_
  exact x_sub [2, 3, 4, 5, 1, 0] rfl (v_M_isOnly_6 C hret hmn hex 100 _ _ _ _ _ _ _ h)
def f_M_vain_167  : Nat → Int32 → Int32 → Int32 → XS → Option Int32
  | 0, _, _, _, _ => none
  | n + 1, x1, x2, x3, st =>
    if 8 ≤ x3 then
      some (x2)
    else
      f_M_vain_167 n x1 (x2 + ((x1 >>> (x3 &&& 31)) &&& (1 : Int32))) (x3 + 1) st
set_option maxRecDepth 100000 in
set_option maxHeartbeats 4000000 in
theorem v_M_vain_167 {p : Program} {l : Launch} {e : Env} {s : State} {m : MethodId} {args : Array Value} {below : List Frame} {meth : Method} {c : Code} {D : va_G} {cA : Nat → ClassId} {g0 : Nat → Nat → Nat} {n0 : Nat → Nat} {r : Int32} (C : x_C p e rm_M_vain s m args meth c D cA (x_A g0 n0 s.heap.size) M_M_vain.2.1 M_M_vain.1 M_M_vain.2.2.1) (hret : meth.sig.returnType = M_M_vain.2.2.2.1) (hmn : meth.name = M_M_vain.2.2.2.2.2) (hex : c.exceptionTable.toList.map (fun h => (h.startPc, h.endPc, h.handlerPc, h.catchType)) = M_M_vain.2.2.2.2.1)  : ∀ (n : Nat) (x1 : Int32) (x2 : Int32) (x3 : Int32) (st : XS), f_M_vain_167 n x1 x2 x3 st = some r → x_V p l e rm_M_vain s m args below meth c D cA (x_A g0 n0 s.heap.size) M_M_vain.2.2.1 g0 n0 (x_MQ D cA g0 n0 below s 0 0 (.inl (some (xI r))) st) 167 [(1, xI (x1)), (2, xI (x2)), (3, xI (x3))] [] st 0 0 := by
  intro n
  induction n with
  | zero => intro x1 x2 x3 st h; cases h
  | succ n ih =>
    intro x1 x2 x3 st h
    rw [f_M_vain_167.eq_def] at h
    dsimp only at h
    refine x_iload_n (pc := 167) C (d_M_vain 105 rfl) rfl 2 rfl ?_
    refine x_bipush (pc := 168) (v := 8) C (by decide) (d_M_vain 106 rfl) ?_
    refine x_icmp_ge (pc := 170) (tgt := 187) C (d_M_vain 107 rfl) (by decide) (fun c1 => ?_) (fun c1 => ?_)
    · rw [if_pos c1] at h
      refine x_iload_n (pc := 187) C (d_M_vain 118 rfl) rfl 1 rfl ?_
      cases h
      exact x_iret (pc := 188) C hret rfl (Nat.zero_le _) (Nat.zero_le _) (d_M_vain 119 rfl)
    · rw [if_neg c1] at h
      refine x_iload_n (pc := 173) C (d_M_vain 108 rfl) rfl 1 rfl ?_
      refine x_iload_n (pc := 174) C (d_M_vain 109 rfl) rfl 0 rfl ?_
      refine x_iload_n (pc := 175) C (d_M_vain 110 rfl) rfl 2 rfl ?_
      refine x_ishr (pc := 176) C (d_M_vain 111 rfl) ?_
      refine x_iconst (pc := 177) (v := 1) C (by decide) (d_M_vain 112 rfl) ?_
      refine x_iand (pc := 178) C (d_M_vain 113 rfl) ?_
      refine x_iadd (pc := 179) C (d_M_vain 114 rfl) ?_
      refine x_istore_n (pc := 180) (L2 := [(2, xI (x2 + ((x1 >>> (x3 &&& 31)) &&& (1 : Int32)))), (1, xI (x1)), (3, xI (x3))]) C (d_M_vain 115 rfl) rfl (by decide) rfl ?_
      refine x_iinc (pc := 181) (v := x3 + 1) (L2 := [(3, xI (x3 + 1)), (2, xI (x2 + ((x1 >>> (x3 &&& 31)) &&& (1 : Int32)))), (1, xI (x1))]) C (d_M_vain 116 rfl) 2 rfl rfl (by decide) rfl ?_
      refine x_goto (pc := 184) (tgt := 167) C (d_M_vain 117 rfl) (by decide) ?_
      exact x_sub [2, 1, 0] rfl (ih _ _ _ _ h)
def f_M_vain_129 (k77 : Nat → Int32 → Int32 → Int32 → XS → Option Int32) (x0 : Nat) (x1 : Int32) (x2 : Int32) (x3 : Int32) (x4 : Int32) (s0 : Int32) (s1 : Option Nat) (st : XS) : Option Int32 :=
  match st.2.2.1 32 x0 7 with
  | none => none
  | some i2 =>
    if x_in x4 20 then
      match s1 with
      | none => none
      | some i5 =>
        match f_M_isOnly i5 s0 (st.1 39 i2 x4.toNatClampNeg) x1 st with
        | none => none
        | some v8 =>
          if v8 = 0 then
            k77 x0 (x1 &&& (((1 : Int32) <<< (x3 &&& 31)) ^^^ ((-1) : Int32))) x2 (x3 + 1) st
          else
            k77 x0 x1 x2 (x3 + 1) st
    else none
set_option maxRecDepth 100000 in
set_option maxHeartbeats 4000000 in
theorem v_M_vain_129 {p : Program} {l : Launch} {e : Env} {s : State} {m : MethodId} {args : Array Value} {below : List Frame} {meth : Method} {c : Code} {D : va_G} {cA : Nat → ClassId} {g0 : Nat → Nat → Nat} {n0 : Nat → Nat} {r : Int32} (C : x_C p e rm_M_vain s m args meth c D cA (x_A g0 n0 s.heap.size) M_M_vain.2.1 M_M_vain.1 M_M_vain.2.2.1) (hret : meth.sig.returnType = M_M_vain.2.2.2.1) (hmn : meth.name = M_M_vain.2.2.2.2.2) (hex : c.exceptionTable.toList.map (fun h => (h.startPc, h.endPc, h.handlerPc, h.catchType)) = M_M_vain.2.2.2.2.1) {k77 : Nat → Int32 → Int32 → Int32 → XS → Option Int32} (hk77 : ∀ (x0 : Nat) (x1 : Int32) (x2 : Int32) (x3 : Int32) (st : XS), k77 x0 x1 x2 x3 st = some r → x_V p l e rm_M_vain s m args below meth c D cA (x_A g0 n0 s.heap.size) M_M_vain.2.2.1 g0 n0 (x_MQ D cA g0 n0 below s 0 0 (.inl (some (xI r))) st) 77 [(0, xR 32 (some (x0))), (1, xI (x1)), (2, xI (x2)), (3, xI (x3))] [] st 0 0) (x0 : Nat) (x1 : Int32) (x2 : Int32) (x3 : Int32) (x4 : Int32) (s0 : Int32) (s1 : Option Nat) (st : XS) (h : f_M_vain_129 k77 x0 x1 x2 x3 x4 s0 s1 st = some r) : x_V p l e rm_M_vain s m args below meth c D cA (x_A g0 n0 s.heap.size) M_M_vain.2.2.1 g0 n0 (x_MQ D cA g0 n0 below s 0 0 (.inl (some (xI r))) st) 129 [(0, xR 32 (some (x0))), (1, xI (x1)), (2, xI (x2)), (3, xI (x3)), (4, xI (x4))] [xI (s0), xR 32 (s1)] st 0 0 := by
  unfold f_M_vain_129 at h
  refine x_aload_n (pc := 129) C (d_M_vain 82 rfl) rfl 0 rfl ?_
  refine x_getR (pc := 130) (t := 39) C fl_M_29 rfl rfl (d_M_vain 83 rfl) ?_
  refine x_iload (pc := 133) C (d_M_vain 84 rfl) 4 rfl ?_
  cases c3 : st.2.2.1 32 x0 7 with
  | none => rw [c3] at h; cases h
  | some i2 =>
    rw [c3] at h
    dsimp only at h
    by_cases b4 : x_in x4 20
    · rw [if_pos b4] at h
      refine x_iald (pc := 135) C ar_39 b4 (d_M_vain 85 rfl) ?_
      refine x_iload_n (pc := 136) C (d_M_vain 86 rfl) rfl 1 rfl ?_
      cases c6 : s1 with
      | none => rw [c6] at h; cases h
      | some i5 =>
        rw [c6] at h
        dsimp only at h
        cases c7 : f_M_isOnly i5 s0 (st.1 39 i2 x4.toNatClampNeg) x1 st with
        | none => rw [c7] at h; cases h
        | some v8 =>
          rw [c7] at h
          dsimp only at h
          refine x_callV (mc := 0) (ms := 0) (pc := 137) (bL := [xI (s0), xI (st.1 39 i2 x4.toNatClampNeg), xI (x1)]) (K := []) C cs_M_174 (m_M_isOnly l c7 : x_M l _ _ _ _ (.inl (some (xI v8))) _ 0 0) (by decide) rfl (Nat.le_of_ble_eq_true rfl) (d_M_vain 87 rfl) ?_
          refine x_if_ne (pc := 140) (tgt := 151) C (d_M_vain 88 rfl) (by decide) (fun c9 => ?_) (fun c9 => ?_)
          · rw [if_neg c9] at h
            refine x_iinc (pc := 151) (v := x3 + 1) (L2 := [(3, xI (x3 + 1)), (0, xR 32 (some (x0))), (1, xI (x1)), (2, xI (x2)), (4, xI (x4))]) C (d_M_vain 97 rfl) 3 rfl rfl (by decide) rfl ?_
            refine x_goto (pc := 154) (tgt := 77) C (d_M_vain 98 rfl) (by decide) ?_
            exact x_sub [1, 2, 3, 0] rfl (hk77 _ _ _ _ _ h)
          · rw [if_pos c9] at h
            refine x_iload_n (pc := 143) C (d_M_vain 89 rfl) rfl 1 rfl ?_
            refine x_iconst (pc := 144) (v := 1) C (by decide) (d_M_vain 90 rfl) ?_
            refine x_iload_n (pc := 145) C (d_M_vain 91 rfl) rfl 3 rfl ?_
            refine x_ishl (pc := 146) C (d_M_vain 92 rfl) ?_
            refine x_iconst (pc := 147) (v := (-1)) C (by decide) (d_M_vain 93 rfl) ?_
            refine x_ixor (pc := 148) C (d_M_vain 94 rfl) ?_
            refine x_iand (pc := 149) C (d_M_vain 95 rfl) ?_
            refine x_istore_n (pc := 150) (L2 := [(1, xI (x1 &&& (((1 : Int32) <<< (x3 &&& 31)) ^^^ ((-1) : Int32)))), (0, xR 32 (some (x0))), (2, xI (x2)), (3, xI (x3)), (4, xI (x4))]) C (d_M_vain 96 rfl) rfl (by decide) rfl ?_
            refine x_iinc (pc := 151) (v := x3 + 1) (L2 := [(3, xI (x3 + 1)), (1, xI (x1 &&& (((1 : Int32) <<< (x3 &&& 31)) ^^^ ((-1) : Int32)))), (0, xR 32 (some (x0))), (2, xI (x2)), (4, xI (x4))]) C (d_M_vain 97 rfl) 3 rfl rfl (by decide) rfl ?_
            refine x_goto (pc := 154) (tgt := 77) C (d_M_vain 98 rfl) (by decide) ?_
            exact x_sub [2, 1, 3, 0] rfl (hk77 _ _ _ _ _ h)
    · rw [if_neg b4] at h; cases h
def f_M_vain_77 (k69 : Nat → Int32 → Int32 → XS → Option Int32) : Nat → Nat → Int32 → Int32 → Int32 → XS → Option Int32
  | 0, _, _, _, _, _ => none
  | n + 1, x0, x1, x2, x3, st =>
    if 8 ≤ x3 then
      k69 x0 x1 (x2 + 1) st
    else
      if ((x1 >>> (x3 &&& 31)) &&& (1 : Int32)) = 0 then
        f_M_vain_77 k69 n x0 x1 x2 (x3 + 1) st
      else
        match st.2.2.1 32 x0 2 with
        | none => none
        | some i13 =>
          if x_in x3 8 then
            match st.2.2.1 32 x0 4 with
            | none => none
            | some i16 =>
              if x_in (((8 : Int32) * x3) + (st.1 34 i13 x3.toNatClampNeg)) 64 then
                match st.2.2.1 32 x0 6 with
                | none => none
                | some i19 =>
                  if x_in (st.1 36 i16 (((8 : Int32) * x3) + (st.1 34 i13 x3.toNatClampNeg)).toNatClampNeg) 20 then
                    if (st.1 38 i19 (st.1 36 i16 (((8 : Int32) * x3) + (st.1 34 i13 x3.toNatClampNeg)).toNatClampNeg).toNatClampNeg) = 1 then
                      f_M_vain_129 (fun a0 a1 a2 a3 a4 => f_M_vain_77 k69 n a0 a1 a2 a3 a4) x0 x1 x2 x3 (st.1 36 i16 (((8 : Int32) * x3) + (st.1 34 i13 x3.toNatClampNeg)).toNatClampNeg) 2 (some (x0)) st
                    else
                      f_M_vain_129 (fun a0 a1 a2 a3 a4 => f_M_vain_77 k69 n a0 a1 a2 a3 a4) x0 x1 x2 x3 (st.1 36 i16 (((8 : Int32) * x3) + (st.1 34 i13 x3.toNatClampNeg)).toNatClampNeg) 1 (some (x0)) st
                  else none
              else none
          else none
set_option maxRecDepth 100000 in
set_option maxHeartbeats 4000000 in
theorem v_M_vain_77 {p : Program} {l : Launch} {e : Env} {s : State} {m : MethodId} {args : Array Value} {below : List Frame} {meth : Method} {c : Code} {D : va_G} {cA : Nat → ClassId} {g0 : Nat → Nat → Nat} {n0 : Nat → Nat} {r : Int32} (C : x_C p e rm_M_vain s m args meth c D cA (x_A g0 n0 s.heap.size) M_M_vain.2.1 M_M_vain.1 M_M_vain.2.2.1) (hret : meth.sig.returnType = M_M_vain.2.2.2.1) (hmn : meth.name = M_M_vain.2.2.2.2.2) (hex : c.exceptionTable.toList.map (fun h => (h.startPc, h.endPc, h.handlerPc, h.catchType)) = M_M_vain.2.2.2.2.1) {k69 : Nat → Int32 → Int32 → XS → Option Int32} (hk69 : ∀ (x0 : Nat) (x1 : Int32) (x2 : Int32) (st : XS), k69 x0 x1 x2 st = some r → x_V p l e rm_M_vain s m args below meth c D cA (x_A g0 n0 s.heap.size) M_M_vain.2.2.1 g0 n0 (x_MQ D cA g0 n0 below s 0 0 (.inl (some (xI r))) st) 69 [(0, xR 32 (some (x0))), (1, xI (x1)), (2, xI (x2))] [] st 0 0) : ∀ (n : Nat) (x0 : Nat) (x1 : Int32) (x2 : Int32) (x3 : Int32) (st : XS), f_M_vain_77 k69 n x0 x1 x2 x3 st = some r → x_V p l e rm_M_vain s m args below meth c D cA (x_A g0 n0 s.heap.size) M_M_vain.2.2.1 g0 n0 (x_MQ D cA g0 n0 below s 0 0 (.inl (some (xI r))) st) 77 [(0, xR 32 (some (x0))), (1, xI (x1)), (2, xI (x2)), (3, xI (x3))] [] st 0 0 := by
  intro n
  induction n with
  | zero => intro x0 x1 x2 x3 st h; cases h
  | succ n ih =>
    intro x0 x1 x2 x3 st h
    rw [f_M_vain_77.eq_def] at h
    dsimp only at h
    refine x_iload_n (pc := 77) C (d_M_vain 50 rfl) rfl 3 rfl ?_
    refine x_bipush (pc := 78) (v := 8) C (by decide) (d_M_vain 51 rfl) ?_
    refine x_icmp_ge (pc := 80) (tgt := 157) C (d_M_vain 52 rfl) (by decide) (fun c11 => ?_) (fun c11 => ?_)
    · rw [if_pos c11] at h
      refine x_iinc (pc := 157) (v := x2 + 1) (L2 := [(2, xI (x2 + 1)), (0, xR 32 (some (x0))), (1, xI (x1)), (3, xI (x3))]) C (d_M_vain 99 rfl) 2 rfl rfl (by decide) rfl ?_
      refine x_goto (pc := 160) (tgt := 69) C (d_M_vain 100 rfl) (by decide) ?_
      exact x_sub [1, 2, 0] rfl (hk69 _ _ _ _ h)
    · rw [if_neg c11] at h
      refine x_iload_n (pc := 83) C (d_M_vain 53 rfl) rfl 1 rfl ?_
      refine x_iload_n (pc := 84) C (d_M_vain 54 rfl) rfl 3 rfl ?_
      refine x_ishr (pc := 85) C (d_M_vain 55 rfl) ?_
      refine x_iconst (pc := 86) (v := 1) C (by decide) (d_M_vain 56 rfl) ?_
      refine x_iand (pc := 87) C (d_M_vain 57 rfl) ?_
      refine x_if_ne (pc := 88) (tgt := 94) C (d_M_vain 58 rfl) (by decide) (fun c12 => ?_) (fun c12 => ?_)
      · rw [if_neg c12] at h
        refine x_aload_n (pc := 94) C (d_M_vain 60 rfl) rfl 0 rfl ?_
        refine x_getR (pc := 95) (t := 36) C fl_M_19 rfl rfl (d_M_vain 61 rfl) ?_
        refine x_bipush (pc := 98) (v := 8) C (by decide) (d_M_vain 62 rfl) ?_
        refine x_iload_n (pc := 100) C (d_M_vain 63 rfl) rfl 3 rfl ?_
        refine x_imul (pc := 101) C (d_M_vain 64 rfl) ?_
        refine x_aload_n (pc := 102) C (d_M_vain 65 rfl) rfl 0 rfl ?_
        refine x_getR (pc := 103) (t := 34) C fl_M_13 rfl rfl (d_M_vain 66 rfl) ?_
        refine x_iload_n (pc := 106) C (d_M_vain 67 rfl) rfl 3 rfl ?_
        cases c14 : st.2.2.1 32 x0 2 with
        | none => rw [c14] at h; cases h
        | some i13 =>
          rw [c14] at h
          dsimp only at h
          by_cases b15 : x_in x3 8
          · rw [if_pos b15] at h
            refine x_iald (pc := 107) C ar_34 b15 (d_M_vain 68 rfl) ?_
            refine x_iadd (pc := 108) C (d_M_vain 69 rfl) ?_
            cases c17 : st.2.2.1 32 x0 4 with
            | none => rw [c17] at h; cases h
            | some i16 =>
              rw [c17] at h
              dsimp only at h
              by_cases b18 : x_in (((8 : Int32) * x3) + (st.1 34 i13 x3.toNatClampNeg)) 64
              · rw [if_pos b18] at h
                refine x_iald (pc := 109) C ar_36 b18 (d_M_vain 70 rfl) ?_
                refine x_istore (pc := 110) (L2 := [(4, xI (st.1 36 i16 (((8 : Int32) * x3) + (st.1 34 i13 x3.toNatClampNeg)).toNatClampNeg)), (0, xR 32 (some (x0))), (1, xI (x1)), (2, xI (x2)), (3, xI (x3))]) C (d_M_vain 71 rfl) (by decide) rfl ?_
                refine x_aload_n (pc := 112) C (d_M_vain 72 rfl) rfl 1 rfl ?_
                refine x_aload_n (pc := 113) C (d_M_vain 73 rfl) rfl 1 rfl ?_
                refine x_getR (pc := 114) (t := 38) C fl_M_26 rfl rfl (d_M_vain 74 rfl) ?_
                refine x_iload (pc := 117) C (d_M_vain 75 rfl) 0 rfl ?_
                cases c20 : st.2.2.1 32 x0 6 with
                | none => rw [c20] at h; cases h
                | some i19 =>
                  rw [c20] at h
                  dsimp only at h
                  by_cases b21 : x_in (st.1 36 i16 (((8 : Int32) * x3) + (st.1 34 i13 x3.toNatClampNeg)).toNatClampNeg) 20
                  · rw [if_pos b21] at h
                    refine x_iald (pc := 119) C ar_38 b21 (d_M_vain 76 rfl) ?_
                    refine x_iconst (pc := 120) (v := 1) C (by decide) (d_M_vain 77 rfl) ?_
                    refine x_icmp_ne (pc := 121) (tgt := 128) C (d_M_vain 78 rfl) (by decide) (fun c22 => ?_) (fun c22 => ?_)
                    · rw [if_neg c22] at h
                      refine x_iconst (pc := 128) (v := 1) C (by decide) (d_M_vain 81 rfl) ?_
                      exact x_sub [1, 2, 3, 4, 0] rfl (v_M_vain_129 C hret hmn hex (fun a0 a1 a2 a3 a4 hh => ih a0 a1 a2 a3 a4 hh) _ _ _ _ _ _ _ _ h)
                    · rw [if_pos c22] at h
                      refine x_iconst (pc := 124) (v := 2) C (by decide) (d_M_vain 79 rfl) ?_
                      refine x_goto (pc := 125) (tgt := 129) C (d_M_vain 80 rfl) (by decide) ?_
                      exact x_sub [1, 2, 3, 4, 0] rfl (v_M_vain_129 C hret hmn hex (fun a0 a1 a2 a3 a4 hh => ih a0 a1 a2 a3 a4 hh) _ _ _ _ _ _ _ _ h)
                  · rw [if_neg b21] at h; cases h
              · rw [if_neg b18] at h; cases h
          · rw [if_neg b15] at h; cases h
      · rw [if_pos c12] at h
        refine x_goto (pc := 91) (tgt := 151) C (d_M_vain 59 rfl) (by decide) ?_
        refine x_iinc (pc := 151) (v := x3 + 1) (L2 := [(3, xI (x3 + 1)), (0, xR 32 (some (x0))), (1, xI (x1)), (2, xI (x2))]) C (d_M_vain 97 rfl) 3 rfl rfl (by decide) rfl ?_
        refine x_goto (pc := 154) (tgt := 77) C (d_M_vain 98 rfl) (by decide) ?_
        exact x_sub [1, 2, 3, 0] rfl (ih _ _ _ _ _ h)
def f_M_vain_69  : Nat → Nat → Int32 → Int32 → XS → Option Int32
  | 0, _, _, _, _ => none
  | n + 1, x0, x1, x2, st =>
    if 8 ≤ x2 then
      f_M_vain_167 100 x1 0 0 st
    else
      f_M_vain_77 (fun a0 a1 a2 a3 => f_M_vain_69 n a0 a1 a2 a3) 100 x0 x1 x2 0 st
set_option maxRecDepth 100000 in
set_option maxHeartbeats 4000000 in
theorem v_M_vain_69 {p : Program} {l : Launch} {e : Env} {s : State} {m : MethodId} {args : Array Value} {below : List Frame} {meth : Method} {c : Code} {D : va_G} {cA : Nat → ClassId} {g0 : Nat → Nat → Nat} {n0 : Nat → Nat} {r : Int32} (C : x_C p e rm_M_vain s m args meth c D cA (x_A g0 n0 s.heap.size) M_M_vain.2.1 M_M_vain.1 M_M_vain.2.2.1) (hret : meth.sig.returnType = M_M_vain.2.2.2.1) (hmn : meth.name = M_M_vain.2.2.2.2.2) (hex : c.exceptionTable.toList.map (fun h => (h.startPc, h.endPc, h.handlerPc, h.catchType)) = M_M_vain.2.2.2.2.1)  : ∀ (n : Nat) (x0 : Nat) (x1 : Int32) (x2 : Int32) (st : XS), f_M_vain_69 n x0 x1 x2 st = some r → x_V p l e rm_M_vain s m args below meth c D cA (x_A g0 n0 s.heap.size) M_M_vain.2.2.1 g0 n0 (x_MQ D cA g0 n0 below s 0 0 (.inl (some (xI r))) st) 69 [(0, xR 32 (some (x0))), (1, xI (x1)), (2, xI (x2))] [] st 0 0 := by
  intro n
  induction n with
  | zero => intro x0 x1 x2 st h; cases h
  | succ n ih =>
    intro x0 x1 x2 st h
    rw [f_M_vain_69.eq_def] at h
    dsimp only at h
    refine x_iload_n (pc := 69) C (d_M_vain 45 rfl) rfl 2 rfl ?_
    refine x_bipush (pc := 70) (v := 8) C (by decide) (d_M_vain 46 rfl) ?_
    refine x_icmp_ge (pc := 72) (tgt := 163) C (d_M_vain 47 rfl) (by decide) (fun c23 => ?_) (fun c23 => ?_)
    · rw [if_pos c23] at h
      refine x_iconst (pc := 163) (v := 0) C (by decide) (d_M_vain 101 rfl) ?_
      refine x_istore_n (pc := 164) (L2 := [(2, xI (0)), (0, xR 32 (some (x0))), (1, xI (x1))]) C (d_M_vain 102 rfl) rfl (by decide) rfl ?_
      refine x_iconst (pc := 165) (v := 0) C (by decide) (d_M_vain 103 rfl) ?_
      refine x_istore_n (pc := 166) (L2 := [(3, xI (0)), (2, xI (0)), (0, xR 32 (some (x0))), (1, xI (x1))]) C (d_M_vain 104 rfl) rfl (by decide) rfl ?_
      exact x_sub [3, 1, 0] rfl (v_M_vain_167 C hret hmn hex 100 _ _ _ _ h)
    · rw [if_neg c23] at h
      refine x_iconst (pc := 75) (v := 0) C (by decide) (d_M_vain 48 rfl) ?_
      refine x_istore_n (pc := 76) (L2 := [(3, xI (0)), (0, xR 32 (some (x0))), (1, xI (x1)), (2, xI (x2))]) C (d_M_vain 49 rfl) rfl (by decide) rfl ?_
      exact x_sub [1, 2, 3, 0] rfl (v_M_vain_77 C hret hmn hex (fun a0 a1 a2 a3 hh => ih a0 a1 a2 a3 hh) 100 _ _ _ _ _ h)
def f_M_vain_40 (k4 : Nat → Int32 → Int32 → XS → Option Int32) (x0 : Nat) (x1 : Int32) (x2 : Int32) (s0 : Int32) (st : XS) : Option Int32 :=
  if s0 < 0 then
    k4 x0 x1 (x2 + 1) st
  else
    match st.2.2.1 32 x0 6 with
    | none => none
    | some i25 =>
      if x_in s0 20 then
        if 3 ≤ (st.1 38 i25 s0.toNatClampNeg) then
          k4 x0 x1 (x2 + 1) st
        else
          k4 x0 (x1 ||| ((1 : Int32) <<< (x2 &&& 31))) (x2 + 1) st
      else none
set_option maxRecDepth 100000 in
set_option maxHeartbeats 4000000 in
theorem v_M_vain_40 {p : Program} {l : Launch} {e : Env} {s : State} {m : MethodId} {args : Array Value} {below : List Frame} {meth : Method} {c : Code} {D : va_G} {cA : Nat → ClassId} {g0 : Nat → Nat → Nat} {n0 : Nat → Nat} {r : Int32} (C : x_C p e rm_M_vain s m args meth c D cA (x_A g0 n0 s.heap.size) M_M_vain.2.1 M_M_vain.1 M_M_vain.2.2.1) (hret : meth.sig.returnType = M_M_vain.2.2.2.1) (hmn : meth.name = M_M_vain.2.2.2.2.2) (hex : c.exceptionTable.toList.map (fun h => (h.startPc, h.endPc, h.handlerPc, h.catchType)) = M_M_vain.2.2.2.2.1) {k4 : Nat → Int32 → Int32 → XS → Option Int32} (hk4 : ∀ (x0 : Nat) (x1 : Int32) (x2 : Int32) (st : XS), k4 x0 x1 x2 st = some r → x_V p l e rm_M_vain s m args below meth c D cA (x_A g0 n0 s.heap.size) M_M_vain.2.2.1 g0 n0 (x_MQ D cA g0 n0 below s 0 0 (.inl (some (xI r))) st) 4 [(0, xR 32 (some (x0))), (1, xI (x1)), (2, xI (x2))] [] st 0 0) (x0 : Nat) (x1 : Int32) (x2 : Int32) (s0 : Int32) (st : XS) (h : f_M_vain_40 k4 x0 x1 x2 s0 st = some r) : x_V p l e rm_M_vain s m args below meth c D cA (x_A g0 n0 s.heap.size) M_M_vain.2.2.1 g0 n0 (x_MQ D cA g0 n0 below s 0 0 (.inl (some (xI r))) st) 40 [(0, xR 32 (some (x0))), (1, xI (x1)), (2, xI (x2))] [xI (s0)] st 0 0 := by
  unfold f_M_vain_40 at h
  refine x_istore_n (pc := 40) (L2 := [(3, xI (s0)), (0, xR 32 (some (x0))), (1, xI (x1)), (2, xI (x2))]) C (d_M_vain 26 rfl) rfl (by decide) rfl ?_
  refine x_iload_n (pc := 41) C (d_M_vain 27 rfl) rfl 0 rfl ?_
  refine x_if_lt (pc := 42) (tgt := 61) C (d_M_vain 28 rfl) (by decide) (fun c24 => ?_) (fun c24 => ?_)
  · rw [if_pos c24] at h
    refine x_iinc (pc := 61) (v := x2 + 1) (L2 := [(2, xI (x2 + 1)), (3, xI (s0)), (0, xR 32 (some (x0))), (1, xI (x1))]) C (d_M_vain 41 rfl) 3 rfl rfl (by decide) rfl ?_
    refine x_goto (pc := 64) (tgt := 4) C (d_M_vain 42 rfl) (by decide) ?_
    exact x_sub [2, 3, 0] rfl (hk4 _ _ _ _ h)
  · rw [if_neg c24] at h
    refine x_aload_n (pc := 45) C (d_M_vain 29 rfl) rfl 1 rfl ?_
    refine x_getR (pc := 46) (t := 38) C fl_M_26 rfl rfl (d_M_vain 30 rfl) ?_
    refine x_iload_n (pc := 49) C (d_M_vain 31 rfl) rfl 0 rfl ?_
    cases c26 : st.2.2.1 32 x0 6 with
    | none => rw [c26] at h; cases h
    | some i25 =>
      rw [c26] at h
      dsimp only at h
      by_cases b27 : x_in s0 20
      · rw [if_pos b27] at h
        refine x_iald (pc := 50) C ar_38 b27 (d_M_vain 32 rfl) ?_
        refine x_iconst (pc := 51) (v := 3) C (by decide) (d_M_vain 33 rfl) ?_
        refine x_icmp_ge (pc := 52) (tgt := 61) C (d_M_vain 34 rfl) (by decide) (fun c28 => ?_) (fun c28 => ?_)
        · rw [if_pos c28] at h
          refine x_iinc (pc := 61) (v := x2 + 1) (L2 := [(2, xI (x2 + 1)), (3, xI (s0)), (0, xR 32 (some (x0))), (1, xI (x1))]) C (d_M_vain 41 rfl) 3 rfl rfl (by decide) rfl ?_
          refine x_goto (pc := 64) (tgt := 4) C (d_M_vain 42 rfl) (by decide) ?_
          exact x_sub [2, 3, 0] rfl (hk4 _ _ _ _ h)
        · rw [if_neg c28] at h
          refine x_iload_n (pc := 55) C (d_M_vain 35 rfl) rfl 2 rfl ?_
          refine x_iconst (pc := 56) (v := 1) C (by decide) (d_M_vain 36 rfl) ?_
          refine x_iload_n (pc := 57) C (d_M_vain 37 rfl) rfl 3 rfl ?_
          refine x_ishl (pc := 58) C (d_M_vain 38 rfl) ?_
          refine x_ior (pc := 59) C (d_M_vain 39 rfl) ?_
          refine x_istore_n (pc := 60) (L2 := [(1, xI (x1 ||| ((1 : Int32) <<< (x2 &&& 31)))), (3, xI (s0)), (0, xR 32 (some (x0))), (2, xI (x2))]) C (d_M_vain 40 rfl) rfl (by decide) rfl ?_
          refine x_iinc (pc := 61) (v := x2 + 1) (L2 := [(2, xI (x2 + 1)), (1, xI (x1 ||| ((1 : Int32) <<< (x2 &&& 31)))), (3, xI (s0)), (0, xR 32 (some (x0)))]) C (d_M_vain 41 rfl) 3 rfl rfl (by decide) rfl ?_
          refine x_goto (pc := 64) (tgt := 4) C (d_M_vain 42 rfl) (by decide) ?_
          exact x_sub [3, 1, 0] rfl (hk4 _ _ _ _ h)
      · rw [if_neg b27] at h; cases h
def f_M_vain_4  : Nat → Nat → Int32 → Int32 → XS → Option Int32
  | 0, _, _, _, _ => none
  | n + 1, x0, x1, x2, st =>
    if 8 ≤ x2 then
      f_M_vain_69 100 x0 x1 0 st
    else
      match st.2.2.1 32 x0 1 with
      | none => none
      | some i30 =>
        if x_in x2 8 then
          if (st.1 33 i30 x2.toNatClampNeg) ≤ 1 then
            f_M_vain_40 (fun a0 a1 a2 a3 => f_M_vain_4 n a0 a1 a2 a3) x0 x1 x2 ((-1)) st
          else
            match st.2.2.1 32 x0 2 with
            | none => none
            | some i34 =>
              if x_in x2 8 then
                match st.2.2.1 32 x0 4 with
                | none => none
                | some i37 =>
                  if x_in (((8 : Int32) * x2) + (st.1 34 i34 x2.toNatClampNeg)) 64 then
                    f_M_vain_40 (fun a0 a1 a2 a3 => f_M_vain_4 n a0 a1 a2 a3) x0 x1 x2 (st.1 36 i37 (((8 : Int32) * x2) + (st.1 34 i34 x2.toNatClampNeg)).toNatClampNeg) st
                  else none
              else none
        else none
set_option maxRecDepth 100000 in
set_option maxHeartbeats 4000000 in
theorem v_M_vain_4 {p : Program} {l : Launch} {e : Env} {s : State} {m : MethodId} {args : Array Value} {below : List Frame} {meth : Method} {c : Code} {D : va_G} {cA : Nat → ClassId} {g0 : Nat → Nat → Nat} {n0 : Nat → Nat} {r : Int32} (C : x_C p e rm_M_vain s m args meth c D cA (x_A g0 n0 s.heap.size) M_M_vain.2.1 M_M_vain.1 M_M_vain.2.2.1) (hret : meth.sig.returnType = M_M_vain.2.2.2.1) (hmn : meth.name = M_M_vain.2.2.2.2.2) (hex : c.exceptionTable.toList.map (fun h => (h.startPc, h.endPc, h.handlerPc, h.catchType)) = M_M_vain.2.2.2.2.1)  : ∀ (n : Nat) (x0 : Nat) (x1 : Int32) (x2 : Int32) (st : XS), f_M_vain_4 n x0 x1 x2 st = some r → x_V p l e rm_M_vain s m args below meth c D cA (x_A g0 n0 s.heap.size) M_M_vain.2.2.1 g0 n0 (x_MQ D cA g0 n0 below s 0 0 (.inl (some (xI r))) st) 4 [(0, xR 32 (some (x0))), (1, xI (x1)), (2, xI (x2))] [] st 0 0 := by
  intro n
  induction n with
  | zero => intro x0 x1 x2 st h; cases h
  | succ n ih =>
    intro x0 x1 x2 st h
    rw [f_M_vain_4.eq_def] at h
    dsimp only at h
    refine x_iload_n (pc := 4) C (d_M_vain 4 rfl) rfl 2 rfl ?_
    refine x_bipush (pc := 5) (v := 8) C (by decide) (d_M_vain 5 rfl) ?_
    refine x_icmp_ge (pc := 7) (tgt := 67) C (d_M_vain 6 rfl) (by decide) (fun c29 => ?_) (fun c29 => ?_)
    · rw [if_pos c29] at h
      refine x_iconst (pc := 67) (v := 0) C (by decide) (d_M_vain 43 rfl) ?_
      refine x_istore_n (pc := 68) (L2 := [(2, xI (0)), (0, xR 32 (some (x0))), (1, xI (x1))]) C (d_M_vain 44 rfl) rfl (by decide) rfl ?_
      exact x_sub [1, 2, 0] rfl (v_M_vain_69 C hret hmn hex 100 _ _ _ _ h)
    · rw [if_neg c29] at h
      refine x_aload_n (pc := 10) C (d_M_vain 7 rfl) rfl 0 rfl ?_
      refine x_getR (pc := 11) (t := 33) C fl_M_7 rfl rfl (d_M_vain 8 rfl) ?_
      refine x_iload_n (pc := 14) C (d_M_vain 9 rfl) rfl 2 rfl ?_
      cases c31 : st.2.2.1 32 x0 1 with
      | none => rw [c31] at h; cases h
      | some i30 =>
        rw [c31] at h
        dsimp only at h
        by_cases b32 : x_in x2 8
        · rw [if_pos b32] at h
          refine x_iald (pc := 15) C ar_33 b32 (d_M_vain 10 rfl) ?_
          refine x_iconst (pc := 16) (v := 1) C (by decide) (d_M_vain 11 rfl) ?_
          refine x_icmp_le (pc := 17) (tgt := 39) C (d_M_vain 12 rfl) (by decide) (fun c33 => ?_) (fun c33 => ?_)
          · rw [if_pos c33] at h
            refine x_iconst (pc := 39) (v := (-1)) C (by decide) (d_M_vain 25 rfl) ?_
            exact x_sub [0, 1, 2] rfl (v_M_vain_40 C hret hmn hex (fun a0 a1 a2 a3 hh => ih a0 a1 a2 a3 hh) _ _ _ _ _ h)
          · rw [if_neg c33] at h
            refine x_aload_n (pc := 20) C (d_M_vain 13 rfl) rfl 0 rfl ?_
            refine x_getR (pc := 21) (t := 36) C fl_M_19 rfl rfl (d_M_vain 14 rfl) ?_
            refine x_bipush (pc := 24) (v := 8) C (by decide) (d_M_vain 15 rfl) ?_
            refine x_iload_n (pc := 26) C (d_M_vain 16 rfl) rfl 2 rfl ?_
            refine x_imul (pc := 27) C (d_M_vain 17 rfl) ?_
            refine x_aload_n (pc := 28) C (d_M_vain 18 rfl) rfl 0 rfl ?_
            refine x_getR (pc := 29) (t := 34) C fl_M_13 rfl rfl (d_M_vain 19 rfl) ?_
            refine x_iload_n (pc := 32) C (d_M_vain 20 rfl) rfl 2 rfl ?_
            cases c35 : st.2.2.1 32 x0 2 with
            | none => rw [c35] at h; cases h
            | some i34 =>
              rw [c35] at h
              dsimp only at h
              by_cases b36 : x_in x2 8
              · rw [if_pos b36] at h
                refine x_iald (pc := 33) C ar_34 b36 (d_M_vain 21 rfl) ?_
                refine x_iadd (pc := 34) C (d_M_vain 22 rfl) ?_
                cases c38 : st.2.2.1 32 x0 4 with
                | none => rw [c38] at h; cases h
                | some i37 =>
                  rw [c38] at h
                  dsimp only at h
                  by_cases b39 : x_in (((8 : Int32) * x2) + (st.1 34 i34 x2.toNatClampNeg)) 64
                  · rw [if_pos b39] at h
                    refine x_iald (pc := 35) C ar_36 b39 (d_M_vain 23 rfl) ?_
                    refine x_goto (pc := 36) (tgt := 40) C (d_M_vain 24 rfl) (by decide) ?_
                    exact x_sub [0, 1, 2] rfl (v_M_vain_40 C hret hmn hex (fun a0 a1 a2 a3 hh => ih a0 a1 a2 a3 hh) _ _ _ _ _ h)
                  · rw [if_neg b39] at h; cases h
              · rw [if_neg b36] at h; cases h
        · rw [if_neg b32] at h; cases h
def f_M_vain (x0 : Nat) (st : XS) : Option Int32 :=
  f_M_vain_4 100 x0 0 0 st
set_option maxRecDepth 100000 in
set_option maxHeartbeats 4000000 in
theorem m_M_vain (l : Launch) {x0 : Nat} {st : XS} {r : Int32} (h : f_M_vain x0 st = some r) : x_M l M_M_vain rm_M_vain [xR 32 (some (x0))] st (.inl (some (xI r))) st 0 0 := by
  refine x_enter (Nat.le_of_ble_eq_true rfl) ?_
  intro p e s m below meth c D cA g args B C
  have hret := B.2.2.2.2.2.2.2.2.1
  have hmn := B.2.2.2.2.2.2.2.1
  have hex := B.2.2.2.2.2.2.2.2.2.1
  unfold f_M_vain at h
  refine x_iconst (pc := 0) (v := 0) C (by decide) (d_M_vain 0 rfl) ?_
  refine x_istore_n (pc := 1) (L2 := [(1, xI (0)), (0, xR 32 (some (x0)))]) C (d_M_vain 1 rfl) rfl (by decide) rfl ?_
  refine x_iconst (pc := 2) (v := 0) C (by decide) (d_M_vain 2 rfl) ?_
  refine x_istore_n (pc := 3) (L2 := [(2, xI (0)), (1, xI (0)), (0, xR 32 (some (x0)))]) C (d_M_vain 3 rfl) rfl (by decide) rfl ?_
  exact x_sub [2, 1, 0] rfl (v_M_vain_4 C hret hmn hex 100 _ _ _ _ h)
def f_M_count_242  : Nat → Nat → Int32 → Int32 → XS → Option (Int32 × XS)
  | 0, _, _, _, _ => none
  | n + 1, x0, x2, x3, st =>
    if 6 ≤ x3 then
      some (x2, st)
    else
      match st.2.2.1 32 x0 12 with
      | none => none
      | some i2 =>
        if x_in x3 6 then
          if (st.1 44 i2 x3.toNatClampNeg) = 0 then
            f_M_count_242 n x0 x2 (x3 + 1) st
          else
            match st.2.2.1 32 x0 10 with
            | none => none
            | some i6 =>
              if x_in x3 6 then
                f_M_count_242 n x0 (x2 + (st.1 42 i6 x3.toNatClampNeg)) (x3 + 1) st
              else none
        else none
set_option maxRecDepth 100000 in
set_option maxHeartbeats 4000000 in
theorem v_M_count_242 {p : Program} {l : Launch} {e : Env} {s : State} {m : MethodId} {args : Array Value} {below : List Frame} {meth : Method} {c : Code} {D : va_G} {cA : Nat → ClassId} {g0 : Nat → Nat → Nat} {n0 : Nat → Nat} {r : Int32} {st2 : XS} (C : x_C p e rm_M_count s m args meth c D cA (x_A g0 n0 s.heap.size) M_M_count.2.1 M_M_count.1 M_M_count.2.2.1) (hret : meth.sig.returnType = M_M_count.2.2.2.1) (hmn : meth.name = M_M_count.2.2.2.2.2) (hex : c.exceptionTable.toList.map (fun h => (h.startPc, h.endPc, h.handlerPc, h.catchType)) = M_M_count.2.2.2.2.1)  : ∀ (n : Nat) (x0 : Nat) (x2 : Int32) (x3 : Int32) (st : XS), f_M_count_242 n x0 x2 x3 st = some (r, st2) → x_V p l e rm_M_count s m args below meth c D cA (x_A g0 n0 s.heap.size) M_M_count.2.2.1 g0 n0 (x_MQ D cA g0 n0 below s 0 0 (.inl (some (xI r))) st2) 242 [(0, xR 32 (some (x0))), (2, xI (x2)), (3, xI (x3))] [] st 0 0 := by
  intro n
  induction n with
  | zero => intro x0 x2 x3 st h; cases h
  | succ n ih =>
    intro x0 x2 x3 st h
    rw [f_M_count_242.eq_def] at h
    dsimp only at h
    refine x_iload_n (pc := 242) C (d_M_count 118 rfl) rfl 2 rfl ?_
    refine x_bipush (pc := 243) (v := 6) C (by decide) (d_M_count 119 rfl) ?_
    refine x_icmp_ge (pc := 245) (tgt := 276) C (d_M_count 120 rfl) (by decide) (fun c1 => ?_) (fun c1 => ?_)
    · rw [if_pos c1] at h
      refine x_iload_n (pc := 276) C (d_M_count 137 rfl) rfl 1 rfl ?_
      cases h
      exact x_iret (pc := 277) C hret rfl (Nat.zero_le _) (Nat.zero_le _) (d_M_count 138 rfl)
    · rw [if_neg c1] at h
      refine x_aload_n (pc := 248) C (d_M_count 121 rfl) rfl 0 rfl ?_
      refine x_getR (pc := 249) (t := 44) C fl_M_44 rfl rfl (d_M_count 122 rfl) ?_
      refine x_iload_n (pc := 252) C (d_M_count 123 rfl) rfl 2 rfl ?_
      cases c3 : st.2.2.1 32 x0 12 with
      | none => rw [c3] at h; cases h
      | some i2 =>
        rw [c3] at h
        dsimp only at h
        by_cases b4 : x_in x3 6
        · rw [if_pos b4] at h
          refine x_zald (pc := 253) C ar_44 b4 (d_M_count 124 rfl) ?_
          refine x_if_eq (pc := 254) (tgt := 268) C (d_M_count 125 rfl) (by decide) (fun c5 => ?_) (fun c5 => ?_)
          · rw [if_pos c5] at h
            refine x_iload_n (pc := 268) C (d_M_count 133 rfl) rfl 1 rfl ?_
            refine x_istore_n (pc := 269) (L2 := [(2, xI (x2)), (0, xR 32 (some (x0))), (3, xI (x3))]) C (d_M_count 134 rfl) rfl (by decide) rfl ?_
            refine x_iinc (pc := 270) (v := x3 + 1) (L2 := [(3, xI (x3 + 1)), (2, xI (x2)), (0, xR 32 (some (x0)))]) C (d_M_count 135 rfl) 2 rfl rfl (by decide) rfl ?_
            refine x_goto (pc := 273) (tgt := 242) C (d_M_count 136 rfl) (by decide) ?_
            exact x_sub [2, 1, 0] rfl (ih _ _ _ _ h)
          · rw [if_neg c5] at h
            refine x_iload_n (pc := 257) C (d_M_count 126 rfl) rfl 1 rfl ?_
            refine x_aload_n (pc := 258) C (d_M_count 127 rfl) rfl 0 rfl ?_
            refine x_getR (pc := 259) (t := 42) C fl_M_38 rfl rfl (d_M_count 128 rfl) ?_
            refine x_iload_n (pc := 262) C (d_M_count 129 rfl) rfl 2 rfl ?_
            cases c7 : st.2.2.1 32 x0 10 with
            | none => rw [c7] at h; cases h
            | some i6 =>
              rw [c7] at h
              dsimp only at h
              by_cases b8 : x_in x3 6
              · rw [if_pos b8] at h
                refine x_iald (pc := 263) C ar_42 b8 (d_M_count 130 rfl) ?_
                refine x_iadd (pc := 264) C (d_M_count 131 rfl) ?_
                refine x_goto (pc := 265) (tgt := 269) C (d_M_count 132 rfl) (by decide) ?_
                refine x_istore_n (pc := 269) (L2 := [(2, xI (x2 + (st.1 42 i6 x3.toNatClampNeg))), (0, xR 32 (some (x0))), (3, xI (x3))]) C (d_M_count 134 rfl) rfl (by decide) rfl ?_
                refine x_iinc (pc := 270) (v := x3 + 1) (L2 := [(3, xI (x3 + 1)), (2, xI (x2 + (st.1 42 i6 x3.toNatClampNeg))), (0, xR 32 (some (x0)))]) C (d_M_count 135 rfl) 2 rfl rfl (by decide) rfl ?_
                refine x_goto (pc := 273) (tgt := 242) C (d_M_count 136 rfl) (by decide) ?_
                exact x_sub [2, 1, 0] rfl (ih _ _ _ _ h)
              · rw [if_neg b8] at h; cases h
        · rw [if_neg b4] at h; cases h
def f_M_count_200  : Nat → Nat → Int32 → Int32 → XS → Option (Int32 × XS)
  | 0, _, _, _, _ => none
  | n + 1, x0, x2, x3, st =>
    if 6 ≤ x3 then
      some (x2, st)
    else
      match st.2.2.1 32 x0 13 with
      | none => none
      | some i10 =>
        if x_in x3 6 then
          if (st.1 45 i10 x3.toNatClampNeg) = 0 then
            f_M_count_200 n x0 x2 (x3 + 1) st
          else
            match st.2.2.1 32 x0 14 with
            | none => none
            | some i14 =>
              if x_in x3 6 then
                if (st.1 46 i14 x3.toNatClampNeg) ≤ 0 then
                  f_M_count_200 n x0 x2 (x3 + 1) st
                else
                  f_M_count_200 n x0 (x2 + (1 : Int32)) (x3 + 1) st
              else none
        else none
set_option maxRecDepth 100000 in
set_option maxHeartbeats 4000000 in
theorem v_M_count_200 {p : Program} {l : Launch} {e : Env} {s : State} {m : MethodId} {args : Array Value} {below : List Frame} {meth : Method} {c : Code} {D : va_G} {cA : Nat → ClassId} {g0 : Nat → Nat → Nat} {n0 : Nat → Nat} {r : Int32} {st2 : XS} (C : x_C p e rm_M_count s m args meth c D cA (x_A g0 n0 s.heap.size) M_M_count.2.1 M_M_count.1 M_M_count.2.2.1) (hret : meth.sig.returnType = M_M_count.2.2.2.1) (hmn : meth.name = M_M_count.2.2.2.2.2) (hex : c.exceptionTable.toList.map (fun h => (h.startPc, h.endPc, h.handlerPc, h.catchType)) = M_M_count.2.2.2.2.1)  : ∀ (n : Nat) (x0 : Nat) (x2 : Int32) (x3 : Int32) (st : XS), f_M_count_200 n x0 x2 x3 st = some (r, st2) → x_V p l e rm_M_count s m args below meth c D cA (x_A g0 n0 s.heap.size) M_M_count.2.2.1 g0 n0 (x_MQ D cA g0 n0 below s 0 0 (.inl (some (xI r))) st2) 200 [(0, xR 32 (some (x0))), (2, xI (x2)), (3, xI (x3))] [] st 0 0 := by
  intro n
  induction n with
  | zero => intro x0 x2 x3 st h; cases h
  | succ n ih =>
    intro x0 x2 x3 st h
    rw [f_M_count_200.eq_def] at h
    dsimp only at h
    refine x_iload_n (pc := 200) C (d_M_count 93 rfl) rfl 2 rfl ?_
    refine x_bipush (pc := 201) (v := 6) C (by decide) (d_M_count 94 rfl) ?_
    refine x_icmp_ge (pc := 203) (tgt := 238) C (d_M_count 95 rfl) (by decide) (fun c9 => ?_) (fun c9 => ?_)
    · rw [if_pos c9] at h
      refine x_iload_n (pc := 238) C (d_M_count 114 rfl) rfl 1 rfl ?_
      cases h
      exact x_iret (pc := 239) C hret rfl (Nat.zero_le _) (Nat.zero_le _) (d_M_count 115 rfl)
    · rw [if_neg c9] at h
      refine x_aload_n (pc := 206) C (d_M_count 96 rfl) rfl 0 rfl ?_
      refine x_getR (pc := 207) (t := 45) C fl_M_48 rfl rfl (d_M_count 97 rfl) ?_
      refine x_iload_n (pc := 210) C (d_M_count 98 rfl) rfl 2 rfl ?_
      cases c11 : st.2.2.1 32 x0 13 with
      | none => rw [c11] at h; cases h
      | some i10 =>
        rw [c11] at h
        dsimp only at h
        by_cases b12 : x_in x3 6
        · rw [if_pos b12] at h
          refine x_zald (pc := 211) C ar_45 b12 (d_M_count 99 rfl) ?_
          refine x_if_eq (pc := 212) (tgt := 230) C (d_M_count 100 rfl) (by decide) (fun c13 => ?_) (fun c13 => ?_)
          · rw [if_pos c13] at h
            refine x_iload_n (pc := 230) C (d_M_count 110 rfl) rfl 1 rfl ?_
            refine x_istore_n (pc := 231) (L2 := [(2, xI (x2)), (0, xR 32 (some (x0))), (3, xI (x3))]) C (d_M_count 111 rfl) rfl (by decide) rfl ?_
            refine x_iinc (pc := 232) (v := x3 + 1) (L2 := [(3, xI (x3 + 1)), (2, xI (x2)), (0, xR 32 (some (x0)))]) C (d_M_count 112 rfl) 2 rfl rfl (by decide) rfl ?_
            refine x_goto (pc := 235) (tgt := 200) C (d_M_count 113 rfl) (by decide) ?_
            exact x_sub [2, 1, 0] rfl (ih _ _ _ _ h)
          · rw [if_neg c13] at h
            refine x_aload_n (pc := 215) C (d_M_count 101 rfl) rfl 0 rfl ?_
            refine x_getR (pc := 216) (t := 46) C fl_M_51 rfl rfl (d_M_count 102 rfl) ?_
            refine x_iload_n (pc := 219) C (d_M_count 103 rfl) rfl 2 rfl ?_
            cases c15 : st.2.2.1 32 x0 14 with
            | none => rw [c15] at h; cases h
            | some i14 =>
              rw [c15] at h
              dsimp only at h
              by_cases b16 : x_in x3 6
              · rw [if_pos b16] at h
                refine x_iald (pc := 220) C ar_46 b16 (d_M_count 104 rfl) ?_
                refine x_if_le (pc := 221) (tgt := 230) C (d_M_count 105 rfl) (by decide) (fun c17 => ?_) (fun c17 => ?_)
                · rw [if_pos c17] at h
                  refine x_iload_n (pc := 230) C (d_M_count 110 rfl) rfl 1 rfl ?_
                  refine x_istore_n (pc := 231) (L2 := [(2, xI (x2)), (0, xR 32 (some (x0))), (3, xI (x3))]) C (d_M_count 111 rfl) rfl (by decide) rfl ?_
                  refine x_iinc (pc := 232) (v := x3 + 1) (L2 := [(3, xI (x3 + 1)), (2, xI (x2)), (0, xR 32 (some (x0)))]) C (d_M_count 112 rfl) 2 rfl rfl (by decide) rfl ?_
                  refine x_goto (pc := 235) (tgt := 200) C (d_M_count 113 rfl) (by decide) ?_
                  exact x_sub [2, 1, 0] rfl (ih _ _ _ _ h)
                · rw [if_neg c17] at h
                  refine x_iload_n (pc := 224) C (d_M_count 106 rfl) rfl 1 rfl ?_
                  refine x_iconst (pc := 225) (v := 1) C (by decide) (d_M_count 107 rfl) ?_
                  refine x_iadd (pc := 226) C (d_M_count 108 rfl) ?_
                  refine x_goto (pc := 227) (tgt := 231) C (d_M_count 109 rfl) (by decide) ?_
                  refine x_istore_n (pc := 231) (L2 := [(2, xI (x2 + (1 : Int32))), (0, xR 32 (some (x0))), (3, xI (x3))]) C (d_M_count 111 rfl) rfl (by decide) rfl ?_
                  refine x_iinc (pc := 232) (v := x3 + 1) (L2 := [(3, xI (x3 + 1)), (2, xI (x2 + (1 : Int32))), (0, xR 32 (some (x0)))]) C (d_M_count 112 rfl) 2 rfl rfl (by decide) rfl ?_
                  refine x_goto (pc := 235) (tgt := 200) C (d_M_count 113 rfl) (by decide) ?_
                  exact x_sub [2, 1, 0] rfl (ih _ _ _ _ h)
              · rw [if_neg b16] at h; cases h
        · rw [if_neg b12] at h; cases h
def f_M_count_167  : Nat → Nat → Int32 → Int32 → XS → Option (Int32 × XS)
  | 0, _, _, _, _ => none
  | n + 1, x0, x2, x3, st =>
    if 6 ≤ x3 then
      some (x2, st)
    else
      match st.2.2.1 32 x0 13 with
      | none => none
      | some i19 =>
        if x_in x3 6 then
          if (st.1 45 i19 x3.toNatClampNeg) = 0 then
            f_M_count_167 n x0 x2 (x3 + 1) st
          else
            f_M_count_167 n x0 (x2 + (1 : Int32)) (x3 + 1) st
        else none
set_option maxRecDepth 100000 in
set_option maxHeartbeats 4000000 in
theorem v_M_count_167 {p : Program} {l : Launch} {e : Env} {s : State} {m : MethodId} {args : Array Value} {below : List Frame} {meth : Method} {c : Code} {D : va_G} {cA : Nat → ClassId} {g0 : Nat → Nat → Nat} {n0 : Nat → Nat} {r : Int32} {st2 : XS} (C : x_C p e rm_M_count s m args meth c D cA (x_A g0 n0 s.heap.size) M_M_count.2.1 M_M_count.1 M_M_count.2.2.1) (hret : meth.sig.returnType = M_M_count.2.2.2.1) (hmn : meth.name = M_M_count.2.2.2.2.2) (hex : c.exceptionTable.toList.map (fun h => (h.startPc, h.endPc, h.handlerPc, h.catchType)) = M_M_count.2.2.2.2.1)  : ∀ (n : Nat) (x0 : Nat) (x2 : Int32) (x3 : Int32) (st : XS), f_M_count_167 n x0 x2 x3 st = some (r, st2) → x_V p l e rm_M_count s m args below meth c D cA (x_A g0 n0 s.heap.size) M_M_count.2.2.1 g0 n0 (x_MQ D cA g0 n0 below s 0 0 (.inl (some (xI r))) st2) 167 [(0, xR 32 (some (x0))), (2, xI (x2)), (3, xI (x3))] [] st 0 0 := by
  intro n
  induction n with
  | zero => intro x0 x2 x3 st h; cases h
  | succ n ih =>
    intro x0 x2 x3 st h
    rw [f_M_count_167.eq_def] at h
    dsimp only at h
    refine x_iload_n (pc := 167) C (d_M_count 73 rfl) rfl 2 rfl ?_
    refine x_bipush (pc := 168) (v := 6) C (by decide) (d_M_count 74 rfl) ?_
    refine x_icmp_ge (pc := 170) (tgt := 196) C (d_M_count 75 rfl) (by decide) (fun c18 => ?_) (fun c18 => ?_)
    · rw [if_pos c18] at h
      refine x_iload_n (pc := 196) C (d_M_count 89 rfl) rfl 1 rfl ?_
      cases h
      exact x_iret (pc := 197) C hret rfl (Nat.zero_le _) (Nat.zero_le _) (d_M_count 90 rfl)
    · rw [if_neg c18] at h
      refine x_aload_n (pc := 173) C (d_M_count 76 rfl) rfl 0 rfl ?_
      refine x_getR (pc := 174) (t := 45) C fl_M_48 rfl rfl (d_M_count 77 rfl) ?_
      refine x_iload_n (pc := 177) C (d_M_count 78 rfl) rfl 2 rfl ?_
      cases c20 : st.2.2.1 32 x0 13 with
      | none => rw [c20] at h; cases h
      | some i19 =>
        rw [c20] at h
        dsimp only at h
        by_cases b21 : x_in x3 6
        · rw [if_pos b21] at h
          refine x_zald (pc := 178) C ar_45 b21 (d_M_count 79 rfl) ?_
          refine x_if_eq (pc := 179) (tgt := 188) C (d_M_count 80 rfl) (by decide) (fun c22 => ?_) (fun c22 => ?_)
          · rw [if_pos c22] at h
            refine x_iload_n (pc := 188) C (d_M_count 85 rfl) rfl 1 rfl ?_
            refine x_istore_n (pc := 189) (L2 := [(2, xI (x2)), (0, xR 32 (some (x0))), (3, xI (x3))]) C (d_M_count 86 rfl) rfl (by decide) rfl ?_
            refine x_iinc (pc := 190) (v := x3 + 1) (L2 := [(3, xI (x3 + 1)), (2, xI (x2)), (0, xR 32 (some (x0)))]) C (d_M_count 87 rfl) 2 rfl rfl (by decide) rfl ?_
            refine x_goto (pc := 193) (tgt := 167) C (d_M_count 88 rfl) (by decide) ?_
            exact x_sub [2, 1, 0] rfl (ih _ _ _ _ h)
          · rw [if_neg c22] at h
            refine x_iload_n (pc := 182) C (d_M_count 81 rfl) rfl 1 rfl ?_
            refine x_iconst (pc := 183) (v := 1) C (by decide) (d_M_count 82 rfl) ?_
            refine x_iadd (pc := 184) C (d_M_count 83 rfl) ?_
            refine x_goto (pc := 185) (tgt := 189) C (d_M_count 84 rfl) (by decide) ?_
            refine x_istore_n (pc := 189) (L2 := [(2, xI (x2 + (1 : Int32))), (0, xR 32 (some (x0))), (3, xI (x3))]) C (d_M_count 86 rfl) rfl (by decide) rfl ?_
            refine x_iinc (pc := 190) (v := x3 + 1) (L2 := [(3, xI (x3 + 1)), (2, xI (x2 + (1 : Int32))), (0, xR 32 (some (x0)))]) C (d_M_count 87 rfl) 2 rfl rfl (by decide) rfl ?_
            refine x_goto (pc := 193) (tgt := 167) C (d_M_count 88 rfl) (by decide) ?_
            exact x_sub [2, 1, 0] rfl (ih _ _ _ _ h)
        · rw [if_neg b21] at h; cases h
def f_M_count_134  : Nat → Nat → Int32 → Int32 → XS → Option (Int32 × XS)
  | 0, _, _, _, _ => none
  | n + 1, x0, x2, x3, st =>
    if 6 ≤ x3 then
      some (x2, st)
    else
      match st.2.2.1 32 x0 12 with
      | none => none
      | some i24 =>
        if x_in x3 6 then
          if (st.1 44 i24 x3.toNatClampNeg) = 0 then
            f_M_count_134 n x0 x2 (x3 + 1) st
          else
            f_M_count_134 n x0 (x2 + (1 : Int32)) (x3 + 1) st
        else none
set_option maxRecDepth 100000 in
set_option maxHeartbeats 4000000 in
theorem v_M_count_134 {p : Program} {l : Launch} {e : Env} {s : State} {m : MethodId} {args : Array Value} {below : List Frame} {meth : Method} {c : Code} {D : va_G} {cA : Nat → ClassId} {g0 : Nat → Nat → Nat} {n0 : Nat → Nat} {r : Int32} {st2 : XS} (C : x_C p e rm_M_count s m args meth c D cA (x_A g0 n0 s.heap.size) M_M_count.2.1 M_M_count.1 M_M_count.2.2.1) (hret : meth.sig.returnType = M_M_count.2.2.2.1) (hmn : meth.name = M_M_count.2.2.2.2.2) (hex : c.exceptionTable.toList.map (fun h => (h.startPc, h.endPc, h.handlerPc, h.catchType)) = M_M_count.2.2.2.2.1)  : ∀ (n : Nat) (x0 : Nat) (x2 : Int32) (x3 : Int32) (st : XS), f_M_count_134 n x0 x2 x3 st = some (r, st2) → x_V p l e rm_M_count s m args below meth c D cA (x_A g0 n0 s.heap.size) M_M_count.2.2.1 g0 n0 (x_MQ D cA g0 n0 below s 0 0 (.inl (some (xI r))) st2) 134 [(0, xR 32 (some (x0))), (2, xI (x2)), (3, xI (x3))] [] st 0 0 := by
  intro n
  induction n with
  | zero => intro x0 x2 x3 st h; cases h
  | succ n ih =>
    intro x0 x2 x3 st h
    rw [f_M_count_134.eq_def] at h
    dsimp only at h
    refine x_iload_n (pc := 134) C (d_M_count 53 rfl) rfl 2 rfl ?_
    refine x_bipush (pc := 135) (v := 6) C (by decide) (d_M_count 54 rfl) ?_
    refine x_icmp_ge (pc := 137) (tgt := 163) C (d_M_count 55 rfl) (by decide) (fun c23 => ?_) (fun c23 => ?_)
    · rw [if_pos c23] at h
      refine x_iload_n (pc := 163) C (d_M_count 69 rfl) rfl 1 rfl ?_
      cases h
      exact x_iret (pc := 164) C hret rfl (Nat.zero_le _) (Nat.zero_le _) (d_M_count 70 rfl)
    · rw [if_neg c23] at h
      refine x_aload_n (pc := 140) C (d_M_count 56 rfl) rfl 0 rfl ?_
      refine x_getR (pc := 141) (t := 44) C fl_M_44 rfl rfl (d_M_count 57 rfl) ?_
      refine x_iload_n (pc := 144) C (d_M_count 58 rfl) rfl 2 rfl ?_
      cases c25 : st.2.2.1 32 x0 12 with
      | none => rw [c25] at h; cases h
      | some i24 =>
        rw [c25] at h
        dsimp only at h
        by_cases b26 : x_in x3 6
        · rw [if_pos b26] at h
          refine x_zald (pc := 145) C ar_44 b26 (d_M_count 59 rfl) ?_
          refine x_if_eq (pc := 146) (tgt := 155) C (d_M_count 60 rfl) (by decide) (fun c27 => ?_) (fun c27 => ?_)
          · rw [if_pos c27] at h
            refine x_iload_n (pc := 155) C (d_M_count 65 rfl) rfl 1 rfl ?_
            refine x_istore_n (pc := 156) (L2 := [(2, xI (x2)), (0, xR 32 (some (x0))), (3, xI (x3))]) C (d_M_count 66 rfl) rfl (by decide) rfl ?_
            refine x_iinc (pc := 157) (v := x3 + 1) (L2 := [(3, xI (x3 + 1)), (2, xI (x2)), (0, xR 32 (some (x0)))]) C (d_M_count 67 rfl) 2 rfl rfl (by decide) rfl ?_
            refine x_goto (pc := 160) (tgt := 134) C (d_M_count 68 rfl) (by decide) ?_
            exact x_sub [2, 1, 0] rfl (ih _ _ _ _ h)
          · rw [if_neg c27] at h
            refine x_iload_n (pc := 149) C (d_M_count 61 rfl) rfl 1 rfl ?_
            refine x_iconst (pc := 150) (v := 1) C (by decide) (d_M_count 62 rfl) ?_
            refine x_iadd (pc := 151) C (d_M_count 63 rfl) ?_
            refine x_goto (pc := 152) (tgt := 156) C (d_M_count 64 rfl) (by decide) ?_
            refine x_istore_n (pc := 156) (L2 := [(2, xI (x2 + (1 : Int32))), (0, xR 32 (some (x0))), (3, xI (x3))]) C (d_M_count 66 rfl) rfl (by decide) rfl ?_
            refine x_iinc (pc := 157) (v := x3 + 1) (L2 := [(3, xI (x3 + 1)), (2, xI (x2 + (1 : Int32))), (0, xR 32 (some (x0)))]) C (d_M_count 67 rfl) 2 rfl rfl (by decide) rfl ?_
            refine x_goto (pc := 160) (tgt := 134) C (d_M_count 68 rfl) (by decide) ?_
            exact x_sub [2, 1, 0] rfl (ih _ _ _ _ h)
        · rw [if_neg b26] at h; cases h
def f_M_count_95  : Nat → Nat → Int32 → Int32 → XS → Option (Int32 × XS)
  | 0, _, _, _, _ => none
  | n + 1, x0, x2, x3, st =>
    if 8 ≤ x3 then
      some (x2, st)
    else
      match st.2.2.1 32 x0 1 with
      | none => none
      | some i29 =>
        if x_in x3 8 then
          if (st.1 33 i29 x3.toNatClampNeg) ≤ 1 then
            f_M_count_95 n x0 x2 (x3 + 1) st
          else
            f_M_count_95 n x0 (x2 + (1 : Int32)) (x3 + 1) st
        else none
set_option maxRecDepth 100000 in
set_option maxHeartbeats 4000000 in
theorem v_M_count_95 {p : Program} {l : Launch} {e : Env} {s : State} {m : MethodId} {args : Array Value} {below : List Frame} {meth : Method} {c : Code} {D : va_G} {cA : Nat → ClassId} {g0 : Nat → Nat → Nat} {n0 : Nat → Nat} {r : Int32} {st2 : XS} (C : x_C p e rm_M_count s m args meth c D cA (x_A g0 n0 s.heap.size) M_M_count.2.1 M_M_count.1 M_M_count.2.2.1) (hret : meth.sig.returnType = M_M_count.2.2.2.1) (hmn : meth.name = M_M_count.2.2.2.2.2) (hex : c.exceptionTable.toList.map (fun h => (h.startPc, h.endPc, h.handlerPc, h.catchType)) = M_M_count.2.2.2.2.1)  : ∀ (n : Nat) (x0 : Nat) (x2 : Int32) (x3 : Int32) (st : XS), f_M_count_95 n x0 x2 x3 st = some (r, st2) → x_V p l e rm_M_count s m args below meth c D cA (x_A g0 n0 s.heap.size) M_M_count.2.2.1 g0 n0 (x_MQ D cA g0 n0 below s 0 0 (.inl (some (xI r))) st2) 95 [(0, xR 32 (some (x0))), (2, xI (x2)), (3, xI (x3))] [] st 0 0 := by
  intro n
  induction n with
  | zero => intro x0 x2 x3 st h; cases h
  | succ n ih =>
    intro x0 x2 x3 st h
    rw [f_M_count_95.eq_def] at h
    dsimp only at h
    refine x_iload_n (pc := 95) C (d_M_count 29 rfl) rfl 2 rfl ?_
    refine x_bipush (pc := 96) (v := 8) C (by decide) (d_M_count 30 rfl) ?_
    refine x_icmp_ge (pc := 98) (tgt := 125) C (d_M_count 31 rfl) (by decide) (fun c28 => ?_) (fun c28 => ?_)
    · rw [if_pos c28] at h
      refine x_iload_n (pc := 125) C (d_M_count 46 rfl) rfl 1 rfl ?_
      cases h
      exact x_iret (pc := 126) C hret rfl (Nat.zero_le _) (Nat.zero_le _) (d_M_count 47 rfl)
    · rw [if_neg c28] at h
      refine x_aload_n (pc := 101) C (d_M_count 32 rfl) rfl 0 rfl ?_
      refine x_getR (pc := 102) (t := 33) C fl_M_7 rfl rfl (d_M_count 33 rfl) ?_
      refine x_iload_n (pc := 105) C (d_M_count 34 rfl) rfl 2 rfl ?_
      cases c30 : st.2.2.1 32 x0 1 with
      | none => rw [c30] at h; cases h
      | some i29 =>
        rw [c30] at h
        dsimp only at h
        by_cases b31 : x_in x3 8
        · rw [if_pos b31] at h
          refine x_iald (pc := 106) C ar_33 b31 (d_M_count 35 rfl) ?_
          refine x_iconst (pc := 107) (v := 1) C (by decide) (d_M_count 36 rfl) ?_
          refine x_icmp_le (pc := 108) (tgt := 117) C (d_M_count 37 rfl) (by decide) (fun c32 => ?_) (fun c32 => ?_)
          · rw [if_pos c32] at h
            refine x_iload_n (pc := 117) C (d_M_count 42 rfl) rfl 1 rfl ?_
            refine x_istore_n (pc := 118) (L2 := [(2, xI (x2)), (0, xR 32 (some (x0))), (3, xI (x3))]) C (d_M_count 43 rfl) rfl (by decide) rfl ?_
            refine x_iinc (pc := 119) (v := x3 + 1) (L2 := [(3, xI (x3 + 1)), (2, xI (x2)), (0, xR 32 (some (x0)))]) C (d_M_count 44 rfl) 2 rfl rfl (by decide) rfl ?_
            refine x_goto (pc := 122) (tgt := 95) C (d_M_count 45 rfl) (by decide) ?_
            exact x_sub [2, 1, 0] rfl (ih _ _ _ _ h)
          · rw [if_neg c32] at h
            refine x_iload_n (pc := 111) C (d_M_count 38 rfl) rfl 1 rfl ?_
            refine x_iconst (pc := 112) (v := 1) C (by decide) (d_M_count 39 rfl) ?_
            refine x_iadd (pc := 113) C (d_M_count 40 rfl) ?_
            refine x_goto (pc := 114) (tgt := 118) C (d_M_count 41 rfl) (by decide) ?_
            refine x_istore_n (pc := 118) (L2 := [(2, xI (x2 + (1 : Int32))), (0, xR 32 (some (x0))), (3, xI (x3))]) C (d_M_count 43 rfl) rfl (by decide) rfl ?_
            refine x_iinc (pc := 119) (v := x3 + 1) (L2 := [(3, xI (x3 + 1)), (2, xI (x2 + (1 : Int32))), (0, xR 32 (some (x0)))]) C (d_M_count 44 rfl) 2 rfl rfl (by decide) rfl ?_
            refine x_goto (pc := 122) (tgt := 95) C (d_M_count 45 rfl) (by decide) ?_
            exact x_sub [2, 1, 0] rfl (ih _ _ _ _ h)
        · rw [if_neg b31] at h; cases h
def f_M_count_62  : Nat → Nat → Int32 → Int32 → XS → Option (Int32 × XS)
  | 0, _, _, _, _ => none
  | n + 1, x0, x2, x3, st =>
    if 8 ≤ x3 then
      some (x2, st)
    else
      match st.2.2.1 32 x0 1 with
      | none => none
      | some i34 =>
        if x_in x3 8 then
          if (st.1 33 i34 x3.toNatClampNeg) ≤ 0 then
            f_M_count_62 n x0 x2 (x3 + 1) st
          else
            f_M_count_62 n x0 (x2 + (1 : Int32)) (x3 + 1) st
        else none
set_option maxRecDepth 100000 in
set_option maxHeartbeats 4000000 in
theorem v_M_count_62 {p : Program} {l : Launch} {e : Env} {s : State} {m : MethodId} {args : Array Value} {below : List Frame} {meth : Method} {c : Code} {D : va_G} {cA : Nat → ClassId} {g0 : Nat → Nat → Nat} {n0 : Nat → Nat} {r : Int32} {st2 : XS} (C : x_C p e rm_M_count s m args meth c D cA (x_A g0 n0 s.heap.size) M_M_count.2.1 M_M_count.1 M_M_count.2.2.1) (hret : meth.sig.returnType = M_M_count.2.2.2.1) (hmn : meth.name = M_M_count.2.2.2.2.2) (hex : c.exceptionTable.toList.map (fun h => (h.startPc, h.endPc, h.handlerPc, h.catchType)) = M_M_count.2.2.2.2.1)  : ∀ (n : Nat) (x0 : Nat) (x2 : Int32) (x3 : Int32) (st : XS), f_M_count_62 n x0 x2 x3 st = some (r, st2) → x_V p l e rm_M_count s m args below meth c D cA (x_A g0 n0 s.heap.size) M_M_count.2.2.1 g0 n0 (x_MQ D cA g0 n0 below s 0 0 (.inl (some (xI r))) st2) 62 [(0, xR 32 (some (x0))), (2, xI (x2)), (3, xI (x3))] [] st 0 0 := by
  intro n
  induction n with
  | zero => intro x0 x2 x3 st h; cases h
  | succ n ih =>
    intro x0 x2 x3 st h
    rw [f_M_count_62.eq_def] at h
    dsimp only at h
    refine x_iload_n (pc := 62) C (d_M_count 9 rfl) rfl 2 rfl ?_
    refine x_bipush (pc := 63) (v := 8) C (by decide) (d_M_count 10 rfl) ?_
    refine x_icmp_ge (pc := 65) (tgt := 91) C (d_M_count 11 rfl) (by decide) (fun c33 => ?_) (fun c33 => ?_)
    · rw [if_pos c33] at h
      refine x_iload_n (pc := 91) C (d_M_count 25 rfl) rfl 1 rfl ?_
      cases h
      exact x_iret (pc := 92) C hret rfl (Nat.zero_le _) (Nat.zero_le _) (d_M_count 26 rfl)
    · rw [if_neg c33] at h
      refine x_aload_n (pc := 68) C (d_M_count 12 rfl) rfl 0 rfl ?_
      refine x_getR (pc := 69) (t := 33) C fl_M_7 rfl rfl (d_M_count 13 rfl) ?_
      refine x_iload_n (pc := 72) C (d_M_count 14 rfl) rfl 2 rfl ?_
      cases c35 : st.2.2.1 32 x0 1 with
      | none => rw [c35] at h; cases h
      | some i34 =>
        rw [c35] at h
        dsimp only at h
        by_cases b36 : x_in x3 8
        · rw [if_pos b36] at h
          refine x_iald (pc := 73) C ar_33 b36 (d_M_count 15 rfl) ?_
          refine x_if_le (pc := 74) (tgt := 83) C (d_M_count 16 rfl) (by decide) (fun c37 => ?_) (fun c37 => ?_)
          · rw [if_pos c37] at h
            refine x_iload_n (pc := 83) C (d_M_count 21 rfl) rfl 1 rfl ?_
            refine x_istore_n (pc := 84) (L2 := [(2, xI (x2)), (0, xR 32 (some (x0))), (3, xI (x3))]) C (d_M_count 22 rfl) rfl (by decide) rfl ?_
            refine x_iinc (pc := 85) (v := x3 + 1) (L2 := [(3, xI (x3 + 1)), (2, xI (x2)), (0, xR 32 (some (x0)))]) C (d_M_count 23 rfl) 2 rfl rfl (by decide) rfl ?_
            refine x_goto (pc := 88) (tgt := 62) C (d_M_count 24 rfl) (by decide) ?_
            exact x_sub [2, 1, 0] rfl (ih _ _ _ _ h)
          · rw [if_neg c37] at h
            refine x_iload_n (pc := 77) C (d_M_count 17 rfl) rfl 1 rfl ?_
            refine x_iconst (pc := 78) (v := 1) C (by decide) (d_M_count 18 rfl) ?_
            refine x_iadd (pc := 79) C (d_M_count 19 rfl) ?_
            refine x_goto (pc := 80) (tgt := 84) C (d_M_count 20 rfl) (by decide) ?_
            refine x_istore_n (pc := 84) (L2 := [(2, xI (x2 + (1 : Int32))), (0, xR 32 (some (x0))), (3, xI (x3))]) C (d_M_count 22 rfl) rfl (by decide) rfl ?_
            refine x_iinc (pc := 85) (v := x3 + 1) (L2 := [(3, xI (x3 + 1)), (2, xI (x2 + (1 : Int32))), (0, xR 32 (some (x0)))]) C (d_M_count 23 rfl) 2 rfl rfl (by decide) rfl ?_
            refine x_goto (pc := 88) (tgt := 62) C (d_M_count 24 rfl) (by decide) ?_
            exact x_sub [2, 1, 0] rfl (ih _ _ _ _ h)
        · rw [if_neg b36] at h; cases h
def f_M_count (x0 : Nat) (x1 : Int32) (st : XS) : Option (Int32 × XS) :=
  if x1 = 0 then
    f_M_count_62 100 x0 0 0 (xsI st 32 x0 0 0)
  else if x1 = 1 then
    f_M_count_95 100 x0 0 0 (xsI st 32 x0 0 0)
  else if x1 = 2 then
    match f_M_countOpenings x0 (xsI st 32 x0 0 0) with
    | none => none
    | some v42 =>
      some (v42, xsI st 32 x0 0 0)
  else if x1 = 3 then
    f_M_count_134 100 x0 0 0 (xsI st 32 x0 0 0)
  else if x1 = 4 then
    f_M_count_167 100 x0 0 0 (xsI st 32 x0 0 0)
  else if x1 = 5 then
    f_M_count_200 100 x0 0 0 (xsI st 32 x0 0 0)
  else if x1 = 6 then
    f_M_count_242 100 x0 0 0 (xsI st 32 x0 0 0)
  else if x1 = 7 then
    some (((xsI st 32 x0 0 0).2.1 32 x0 19).toInt32, xsI st 32 x0 0 0)
  else if x1 = 8 then
    match f_M_vain x0 (xsI st 32 x0 0 0) with
    | none => none
    | some v51 =>
      some (v51, xsI st 32 x0 0 0)
  else
    some ((-1), xsI st 32 x0 0 0)
set_option maxRecDepth 100000 in
set_option maxHeartbeats 4000000 in
theorem m_M_count (l : Launch) {x0 : Nat} {x1 : Int32} {st : XS} {r : Int32} {st2 : XS} (h : f_M_count x0 x1 st = some (r, st2)) : x_M l M_M_count rm_M_count [xR 32 (some (x0)), xI (x1)] st (.inl (some (xI r))) st2 0 0 := by
  refine x_enter (Nat.le_of_ble_eq_true rfl) ?_
  intro p e s m below meth c D cA g args B C
  have hret := B.2.2.2.2.2.2.2.2.1
  have hmn := B.2.2.2.2.2.2.2.1
  have hex := B.2.2.2.2.2.2.2.2.2.1
  unfold f_M_count at h
  refine x_aload_n (pc := 0) C (d_M_count 0 rfl) rfl 0 rfl ?_
  refine x_iconst (pc := 1) (v := 0) C (by decide) (d_M_count 1 rfl) ?_
  refine x_putI (pc := 2) C fl_M_66 (pf_M_66 _) rfl ty_32_0 (d_M_count 2 rfl) ?_
  refine x_iconst (pc := 5) (v := 0) C (by decide) (d_M_count 3 rfl) ?_
  refine x_istore_n (pc := 6) (L2 := [(2, xI (0)), (0, xR 32 (some (x0))), (1, xI (x1))]) C (d_M_count 4 rfl) rfl (by decide) rfl ?_
  refine x_iload_n (pc := 7) C (d_M_count 5 rfl) rfl 2 rfl ?_
  by_cases c38 : x1 = 0
  · rw [if_pos c38] at h
    refine x_tsw (pc := 8) (v := 0) (tgt := 60) C (d_M_count 6 rfl) c38 (by decide) (by decide) rfl (by decide) ?_
    refine x_iconst (pc := 60) (v := 0) C (by decide) (d_M_count 7 rfl) ?_
    refine x_istore_n (pc := 61) (L2 := [(3, xI (0)), (2, xI (0)), (0, xR 32 (some (x0))), (1, xI (x1))]) C (d_M_count 8 rfl) rfl (by decide) rfl ?_
    exact x_sub [2, 1, 0] rfl (v_M_count_62 C hret hmn hex 100 _ _ _ _ h)
  rw [if_neg c38] at h
  by_cases c39 : x1 = 1
  · rw [if_pos c39] at h
    refine x_tsw (pc := 8) (v := 1) (tgt := 93) C (d_M_count 6 rfl) c39 (by decide) (by decide) rfl (by decide) ?_
    refine x_iconst (pc := 93) (v := 0) C (by decide) (d_M_count 27 rfl) ?_
    refine x_istore_n (pc := 94) (L2 := [(3, xI (0)), (2, xI (0)), (0, xR 32 (some (x0))), (1, xI (x1))]) C (d_M_count 28 rfl) rfl (by decide) rfl ?_
    exact x_sub [2, 1, 0] rfl (v_M_count_95 C hret hmn hex 100 _ _ _ _ h)
  rw [if_neg c39] at h
  by_cases c40 : x1 = 2
  · rw [if_pos c40] at h
    refine x_tsw (pc := 8) (v := 2) (tgt := 127) C (d_M_count 6 rfl) c40 (by decide) (by decide) rfl (by decide) ?_
    refine x_aload_n (pc := 127) C (d_M_count 48 rfl) rfl 1 rfl ?_
    cases c41 : f_M_countOpenings x0 (xsI st 32 x0 0 0) with
    | none => rw [c41] at h; cases h
    | some v42 =>
      rw [c41] at h
      dsimp only at h
      refine x_callV (mc := 0) (ms := 0) (pc := 128) (bL := []) (K := []) C cs_M_141 (m_M_countOpenings l c41 : x_M l _ _ _ _ (.inl (some (xI v42))) _ 0 0) (by decide) rfl (Nat.le_of_ble_eq_true rfl) (d_M_count 49 rfl) ?_
      cases h
      exact x_iret (pc := 131) C hret rfl (Nat.zero_le _) (Nat.zero_le _) (d_M_count 50 rfl)
  rw [if_neg c40] at h
  by_cases c44 : x1 = 3
  · rw [if_pos c44] at h
    refine x_tsw (pc := 8) (v := 3) (tgt := 132) C (d_M_count 6 rfl) c44 (by decide) (by decide) rfl (by decide) ?_
    refine x_iconst (pc := 132) (v := 0) C (by decide) (d_M_count 51 rfl) ?_
    refine x_istore_n (pc := 133) (L2 := [(3, xI (0)), (2, xI (0)), (0, xR 32 (some (x0))), (1, xI (x1))]) C (d_M_count 52 rfl) rfl (by decide) rfl ?_
    exact x_sub [2, 1, 0] rfl (v_M_count_134 C hret hmn hex 100 _ _ _ _ h)
  rw [if_neg c44] at h
  by_cases c45 : x1 = 4
  · rw [if_pos c45] at h
    refine x_tsw (pc := 8) (v := 4) (tgt := 165) C (d_M_count 6 rfl) c45 (by decide) (by decide) rfl (by decide) ?_
    refine x_iconst (pc := 165) (v := 0) C (by decide) (d_M_count 71 rfl) ?_
    refine x_istore_n (pc := 166) (L2 := [(3, xI (0)), (2, xI (0)), (0, xR 32 (some (x0))), (1, xI (x1))]) C (d_M_count 72 rfl) rfl (by decide) rfl ?_
    exact x_sub [2, 1, 0] rfl (v_M_count_167 C hret hmn hex 100 _ _ _ _ h)
  rw [if_neg c45] at h
  by_cases c46 : x1 = 5
  · rw [if_pos c46] at h
    refine x_tsw (pc := 8) (v := 5) (tgt := 198) C (d_M_count 6 rfl) c46 (by decide) (by decide) rfl (by decide) ?_
    refine x_iconst (pc := 198) (v := 0) C (by decide) (d_M_count 91 rfl) ?_
    refine x_istore_n (pc := 199) (L2 := [(3, xI (0)), (2, xI (0)), (0, xR 32 (some (x0))), (1, xI (x1))]) C (d_M_count 92 rfl) rfl (by decide) rfl ?_
    exact x_sub [2, 1, 0] rfl (v_M_count_200 C hret hmn hex 100 _ _ _ _ h)
  rw [if_neg c46] at h
  by_cases c47 : x1 = 6
  · rw [if_pos c47] at h
    refine x_tsw (pc := 8) (v := 6) (tgt := 240) C (d_M_count 6 rfl) c47 (by decide) (by decide) rfl (by decide) ?_
    refine x_iconst (pc := 240) (v := 0) C (by decide) (d_M_count 116 rfl) ?_
    refine x_istore_n (pc := 241) (L2 := [(3, xI (0)), (2, xI (0)), (0, xR 32 (some (x0))), (1, xI (x1))]) C (d_M_count 117 rfl) rfl (by decide) rfl ?_
    exact x_sub [2, 1, 0] rfl (v_M_count_242 C hret hmn hex 100 _ _ _ _ h)
  rw [if_neg c47] at h
  by_cases c48 : x1 = 7
  · rw [if_pos c48] at h
    refine x_tsw (pc := 8) (v := 7) (tgt := 278) C (d_M_count 6 rfl) c48 (by decide) (by decide) rfl (by decide) ?_
    refine x_aload_n (pc := 278) C (d_M_count 139 rfl) rfl 1 rfl ?_
    refine x_getJ (pc := 279) C fl_M_161 rfl (d_M_count 140 rfl) ?_
    refine x_l2i (pc := 282) C (d_M_count 141 rfl) ?_
    cases h
    exact x_iret (pc := 283) C hret rfl (Nat.zero_le _) (Nat.zero_le _) (d_M_count 142 rfl)
  rw [if_neg c48] at h
  by_cases c49 : x1 = 8
  · rw [if_pos c49] at h
    refine x_tsw (pc := 8) (v := 8) (tgt := 284) C (d_M_count 6 rfl) c49 (by decide) (by decide) rfl (by decide) ?_
    refine x_aload_n (pc := 284) C (d_M_count 143 rfl) rfl 1 rfl ?_
    cases c50 : f_M_vain x0 (xsI st 32 x0 0 0) with
    | none => rw [c50] at h; cases h
    | some v51 =>
      rw [c50] at h
      dsimp only at h
      refine x_callV (mc := 0) (ms := 0) (pc := 285) (bL := []) (K := []) C cs_M_177 (m_M_vain l c50 : x_M l _ _ _ _ (.inl (some (xI v51))) _ 0 0) (by decide) rfl (Nat.le_of_ble_eq_true rfl) (d_M_count 144 rfl) ?_
      cases h
      exact x_iret (pc := 288) C hret rfl (Nat.zero_le _) (Nat.zero_le _) (d_M_count 145 rfl)
  rw [if_neg c49] at h
  refine x_tout (pc := 8) (tgt := 289) C (d_M_count 6 rfl) (x_swo (fun k h1 h2 => by
      have h3 : k = 0 ∨ k = 1 ∨ k = 2 ∨ k = 3 ∨ k = 4 ∨ k = 5 ∨ k = 6 ∨ k = 7 ∨ k = 8 := by omega
      rcases h3 with rfl | rfl | rfl | rfl | rfl | rfl | rfl | rfl | rfl <;> assumption)) (by decide) ?_
  refine x_iconst (pc := 289) (v := (-1)) C (by decide) (d_M_count 146 rfl) ?_
  cases h
  exact x_iret (pc := 290) C hret rfl (Nat.zero_le _) (Nat.zero_le _) (d_M_count 147 rfl)
