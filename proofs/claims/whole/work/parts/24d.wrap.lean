/-! methods as functions, by program (wip/gen) -/
def f_L_fork (x0 : Option Nat) (x1 : Int32) (x2 : Option Nat) (st : XS) : Option (Int32 × XS) :=
  match x0 with
  | none => none
  | some i1 =>
    match f_D_fork i1 x1 st with
    | none => none
    | some (.inr e_10, st5) =>
      if e_10 = "java/lang/IllegalStateException" then
        some (1, st5)
      else none
    | some (.inl v4, st5) =>
      match x2 with
      | none => none
      | some i6 =>
        if x_in 0 1 then
          some (0, xsJ st5 64 i6 (0 : Int32).toNatClampNeg (v4.toInt64))
        else none
set_option maxRecDepth 100000 in
set_option maxHeartbeats 4000000 in
theorem m_L_fork (l : Launch) (hfl : l.flags = flags0) {x0 : Option Nat} {x1 : Int32} {x2 : Option Nat} {st : XS} {r : Int32} {st2 : XS} (h : f_L_fork x0 x1 x2 st = some (r, st2)) : x_M l M_L_fork rm_L_fork [xR 0 (x0), xI (x1), xR 64 (x2)] st (.inl (some (xI r))) st2 1 6 := by
  refine x_enter (Nat.le_of_ble_eq_true rfl) ?_
  intro p e s m below meth c D cA g args B C
  have hret := B.2.2.2.2.2.2.2.2.1
  have hmn := B.2.2.2.2.2.2.2.1
  have hex := B.2.2.2.2.2.2.2.2.2.1
  unfold f_L_fork at h
  refine x_aload_n (pc := 0) C (d_L_fork 0 rfl) rfl 2 rfl ?_
  refine x_iconst (pc := 1) (v := 0) C (by decide) (d_L_fork 1 rfl) ?_
  refine x_aload_n (pc := 2) C (d_L_fork 2 rfl) rfl 0 rfl ?_
  refine x_iload_n (pc := 3) C (d_L_fork 3 rfl) rfl 1 rfl ?_
  cases c2 : x0 with
  | none => rw [c2] at h; cases h
  | some i1 =>
    rw [c2] at h
    dsimp only at h
    cases c3 : f_D_fork i1 x1 st with
    | none => rw [c3] at h; cases h
    | some w9 =>
      obtain ⟨w9, st5⟩ := w9
      cases w9 with
      | inr e_10 =>
        rw [c3] at h
        dsimp only at h
        by_cases q13 : e_10 = "java/lang/IllegalStateException"
        · subst q13
          rw [if_pos rfl] at h
          refine x_callVt (mc := 1) (ms := 6) (pc := 4) (bL := [xI (x1)]) (K := [xI (0), xR 64 (x2)]) C cs_L_7 (m_D_fork l hfl c3 : x_M l _ _ _ _ (.inr "java/lang/IllegalStateException") _ 1 6) (by decide) rfl (Nat.le_of_ble_eq_true rfl) (d_L_fork 4 rfl) (x_catch (pre := []) (r := (0, 9, 12, 13)) (rest := []) C hex (Or.inl rfl) (by decide) (by decide) w_331 C.2.2.2.2.2.2.2.2.1.1 (fun a11 => ?_))
          refine x_astore_n (pc := 12) (L2 := [(3, xA (a11)), (0, xR 0 (some (i1))), (1, xI (x1)), (2, xR 64 (x2))]) C (d_L_fork 8 rfl) rfl (by decide) rfl ?_
          refine x_iconst (pc := 13) (v := 1) C (by decide) (d_L_fork 9 rfl) ?_
          cases h
          exact x_iret (pc := 14) C hret rfl (Nat.le_of_ble_eq_true rfl) (Nat.le_of_ble_eq_true rfl) (d_L_fork 10 rfl)
        · rw [if_neg q13] at h
          cases h
      | inl v4 =>
        rw [c3] at h
        dsimp only at h
        refine x_callV (mc := 0) (ms := 0) (pc := 4) (bL := [xI (x1)]) (K := [xI (0), xR 64 (x2)]) C cs_L_7 (m_D_fork l hfl c3 : x_M l _ _ _ _ (.inl (some (xI v4))) _ 0 0) (by decide) rfl (Nat.le_of_ble_eq_true rfl) (d_L_fork 4 rfl) ?_
        refine x_i2l (pc := 7) C (d_L_fork 5 rfl) ?_
        cases c7 : x2 with
        | none => rw [c7] at h; cases h
        | some i6 =>
          rw [c7] at h
          dsimp only at h
          by_cases b8 : x_in 0 1
          · rw [if_pos b8] at h
            refine x_last (pc := 8) C ar_64 b8 (d_L_fork 6 rfl) ?_
            refine x_goto (pc := 9) (tgt := 15) C (d_L_fork 7 rfl) (by decide) ?_
            refine x_iconst (pc := 15) (v := 0) C (by decide) (d_L_fork 11 rfl) ?_
            cases h
            exact x_iret (pc := 16) C hret rfl (Nat.zero_le _) (Nat.zero_le _) (d_L_fork 12 rfl)
          · rw [if_neg b8] at h; cases h
def f_L_exit (x0 : Option Nat) (x1 : Int32) (x2 : Option Nat) (st : XS) : Option (Int32 × XS) :=
  match x0 with
  | none => none
  | some i1 =>
    match f_D_exit i1 x1 st with
    | none => none
    | some (.inr e_10, st5) =>
      if e_10 = "java/lang/IllegalStateException" then
        some (1, st5)
      else none
    | some (.inl v4, st5) =>
      match x2 with
      | none => none
      | some i6 =>
        if x_in 0 1 then
          some (0, xsJ st5 64 i6 (0 : Int32).toNatClampNeg (v4.toInt64))
        else none
set_option maxRecDepth 100000 in
set_option maxHeartbeats 4000000 in
theorem m_L_exit (l : Launch) (hfl : l.flags = flags0) {x0 : Option Nat} {x1 : Int32} {x2 : Option Nat} {st : XS} {r : Int32} {st2 : XS} (h : f_L_exit x0 x1 x2 st = some (r, st2)) : x_M l M_L_exit rm_L_exit [xR 0 (x0), xI (x1), xR 64 (x2)] st (.inl (some (xI r))) st2 1 6 := by
  refine x_enter (Nat.le_of_ble_eq_true rfl) ?_
  intro p e s m below meth c D cA g args B C
  have hret := B.2.2.2.2.2.2.2.2.1
  have hmn := B.2.2.2.2.2.2.2.1
  have hex := B.2.2.2.2.2.2.2.2.2.1
  unfold f_L_exit at h
  refine x_aload_n (pc := 0) C (d_L_exit 0 rfl) rfl 2 rfl ?_
  refine x_iconst (pc := 1) (v := 0) C (by decide) (d_L_exit 1 rfl) ?_
  refine x_aload_n (pc := 2) C (d_L_exit 2 rfl) rfl 0 rfl ?_
  refine x_iload_n (pc := 3) C (d_L_exit 3 rfl) rfl 1 rfl ?_
  cases c2 : x0 with
  | none => rw [c2] at h; cases h
  | some i1 =>
    rw [c2] at h
    dsimp only at h
    cases c3 : f_D_exit i1 x1 st with
    | none => rw [c3] at h; cases h
    | some w9 =>
      obtain ⟨w9, st5⟩ := w9
      cases w9 with
      | inr e_10 =>
        rw [c3] at h
        dsimp only at h
        by_cases q13 : e_10 = "java/lang/IllegalStateException"
        · subst q13
          rw [if_pos rfl] at h
          refine x_callVt (mc := 1) (ms := 6) (pc := 4) (bL := [xI (x1)]) (K := [xI (0), xR 64 (x2)]) C cs_L_15 (m_D_exit l hfl c3 : x_M l _ _ _ _ (.inr "java/lang/IllegalStateException") _ 1 6) (by decide) rfl (Nat.le_of_ble_eq_true rfl) (d_L_exit 4 rfl) (x_catch (pre := []) (r := (0, 9, 12, 13)) (rest := []) C hex (Or.inl rfl) (by decide) (by decide) w_331 C.2.2.2.2.2.2.2.2.1.1 (fun a11 => ?_))
          refine x_astore_n (pc := 12) (L2 := [(3, xA (a11)), (0, xR 0 (some (i1))), (1, xI (x1)), (2, xR 64 (x2))]) C (d_L_exit 8 rfl) rfl (by decide) rfl ?_
          refine x_iconst (pc := 13) (v := 1) C (by decide) (d_L_exit 9 rfl) ?_
          cases h
          exact x_iret (pc := 14) C hret rfl (Nat.le_of_ble_eq_true rfl) (Nat.le_of_ble_eq_true rfl) (d_L_exit 10 rfl)
        · rw [if_neg q13] at h
          cases h
      | inl v4 =>
        rw [c3] at h
        dsimp only at h
        refine x_callV (mc := 0) (ms := 0) (pc := 4) (bL := [xI (x1)]) (K := [xI (0), xR 64 (x2)]) C cs_L_15 (m_D_exit l hfl c3 : x_M l _ _ _ _ (.inl (some (xI v4))) _ 0 0) (by decide) rfl (Nat.le_of_ble_eq_true rfl) (d_L_exit 4 rfl) ?_
        refine x_i2l (pc := 7) C (d_L_exit 5 rfl) ?_
        cases c7 : x2 with
        | none => rw [c7] at h; cases h
        | some i6 =>
          rw [c7] at h
          dsimp only at h
          by_cases b8 : x_in 0 1
          · rw [if_pos b8] at h
            refine x_last (pc := 8) C ar_64 b8 (d_L_exit 6 rfl) ?_
            refine x_goto (pc := 9) (tgt := 15) C (d_L_exit 7 rfl) (by decide) ?_
            refine x_iconst (pc := 15) (v := 0) C (by decide) (d_L_exit 11 rfl) ?_
            cases h
            exact x_iret (pc := 16) C hret rfl (Nat.zero_le _) (Nat.zero_le _) (d_L_exit 12 rfl)
          · rw [if_neg b8] at h; cases h
def f_L_open (x0 : Option Nat) (x1 : Int32) (x2 : Int32) (x3 : Int32) (x4 : Option Nat) (st : XS) : Option (Int32 × XS) :=
  match x0 with
  | none => none
  | some i1 =>
    match f_D_open i1 x1 x2 x3 st with
    | none => none
    | some (.inr e_10, st5) =>
      if e_10 = "java/lang/IllegalStateException" then
        some (1, st5)
      else if e_10 = "java/lang/IllegalArgumentException" then
        some (2, st5)
      else none
    | some (.inl v4, st5) =>
      match x4 with
      | none => none
      | some i6 =>
        if x_in 0 1 then
          some (0, xsJ st5 64 i6 (0 : Int32).toNatClampNeg (v4.toInt64))
        else none
set_option maxRecDepth 100000 in
set_option maxHeartbeats 4000000 in
theorem m_L_open (l : Launch) (hfl : l.flags = flags0) {x0 : Option Nat} {x1 : Int32} {x2 : Int32} {x3 : Int32} {x4 : Option Nat} {st : XS} {r : Int32} {st2 : XS} (h : f_L_open x0 x1 x2 x3 x4 st = some (r, st2)) : x_M l M_L_open rm_L_open [xR 0 (x0), xI (x1), xI (x2), xI (x3), xR 64 (x4)] st (.inl (some (xI r))) st2 1 6 := by
  refine x_enter (Nat.le_of_ble_eq_true rfl) ?_
  intro p e s m below meth c D cA g args B C
  have hret := B.2.2.2.2.2.2.2.2.1
  have hmn := B.2.2.2.2.2.2.2.1
  have hex := B.2.2.2.2.2.2.2.2.2.1
  unfold f_L_open at h
  refine x_aload (pc := 0) C (d_L_open 0 rfl) 4 rfl ?_
  refine x_iconst (pc := 2) (v := 0) C (by decide) (d_L_open 1 rfl) ?_
  refine x_aload_n (pc := 3) C (d_L_open 2 rfl) rfl 0 rfl ?_
  refine x_iload_n (pc := 4) C (d_L_open 3 rfl) rfl 1 rfl ?_
  refine x_iload_n (pc := 5) C (d_L_open 4 rfl) rfl 2 rfl ?_
  refine x_iload_n (pc := 6) C (d_L_open 5 rfl) rfl 3 rfl ?_
  cases c2 : x0 with
  | none => rw [c2] at h; cases h
  | some i1 =>
    rw [c2] at h
    dsimp only at h
    cases c3 : f_D_open i1 x1 x2 x3 st with
    | none => rw [c3] at h; cases h
    | some w9 =>
      obtain ⟨w9, st5⟩ := w9
      cases w9 with
      | inr e_10 =>
        rw [c3] at h
        dsimp only at h
        by_cases q15 : e_10 = "java/lang/IllegalStateException"
        · subst q15
          rw [if_pos rfl] at h
          refine x_callVt (mc := 1) (ms := 6) (pc := 7) (bL := [xI (x1), xI (x2), xI (x3)]) (K := [xI (0), xR 64 (x4)]) C cs_L_18 (m_D_open l hfl c3 : x_M l _ _ _ _ (.inr "java/lang/IllegalStateException") _ 1 6) (by decide) rfl (Nat.le_of_ble_eq_true rfl) (d_L_open 6 rfl) (x_catch (pre := []) (r := (0, 12, 15, 13)) (rest := [(0, 12, 19, 22)]) C hex (Or.inl rfl) (by decide) (by decide) w_331 C.2.2.2.2.2.2.2.2.1.1 (fun a11 => ?_))
          refine x_astore (pc := 15) (L2 := [(5, xA (a11)), (0, xR 0 (some (i1))), (1, xI (x1)), (2, xI (x2)), (3, xI (x3)), (4, xR 64 (x4))]) C (d_L_open 10 rfl) (by decide) rfl ?_
          refine x_iconst (pc := 17) (v := 1) C (by decide) (d_L_open 11 rfl) ?_
          cases h
          exact x_iret (pc := 18) C hret rfl (Nat.le_of_ble_eq_true rfl) (Nat.le_of_ble_eq_true rfl) (d_L_open 12 rfl)
        · rw [if_neg q15] at h
          by_cases q16 : e_10 = "java/lang/IllegalArgumentException"
          · subst q16
            rw [if_pos rfl] at h
            refine x_callVt (mc := 1) (ms := 6) (pc := 7) (bL := [xI (x1), xI (x2), xI (x3)]) (K := [xI (0), xR 64 (x4)]) C cs_L_18 (m_D_open l hfl c3 : x_M l _ _ _ _ (.inr "java/lang/IllegalArgumentException") _ 1 6) (by decide) rfl (Nat.le_of_ble_eq_true rfl) (d_L_open 6 rfl) (x_catch (pre := [(0, 12, 15, 13)]) (r := (0, 12, 19, 22)) (rest := []) C hex (Or.inr ⟨(0, 12, 15, 13), "java/lang/IllegalStateException", rfl, by decide, by decide, w_331, C.2.2.2.2.2.2.2.2.2.2.2.2.2.1 ("java/lang/IllegalArgumentException", "java/lang/IllegalStateException") (by decide)⟩) (by decide) (by decide) w_441 C.2.2.2.2.2.2.2.2.1.2 (fun a12 => ?_))
            refine x_astore (pc := 19) (L2 := [(5, xA (a12)), (0, xR 0 (some (i1))), (1, xI (x1)), (2, xI (x2)), (3, xI (x3)), (4, xR 64 (x4))]) C (d_L_open 13 rfl) (by decide) rfl ?_
            refine x_iconst (pc := 21) (v := 2) C (by decide) (d_L_open 14 rfl) ?_
            cases h
            exact x_iret (pc := 22) C hret rfl (Nat.le_of_ble_eq_true rfl) (Nat.le_of_ble_eq_true rfl) (d_L_open 15 rfl)
          · rw [if_neg q16] at h
            cases h
      | inl v4 =>
        rw [c3] at h
        dsimp only at h
        refine x_callV (mc := 0) (ms := 0) (pc := 7) (bL := [xI (x1), xI (x2), xI (x3)]) (K := [xI (0), xR 64 (x4)]) C cs_L_18 (m_D_open l hfl c3 : x_M l _ _ _ _ (.inl (some (xI v4))) _ 0 0) (by decide) rfl (Nat.le_of_ble_eq_true rfl) (d_L_open 6 rfl) ?_
        refine x_i2l (pc := 10) C (d_L_open 7 rfl) ?_
        cases c7 : x4 with
        | none => rw [c7] at h; cases h
        | some i6 =>
          rw [c7] at h
          dsimp only at h
          by_cases b8 : x_in 0 1
          · rw [if_pos b8] at h
            refine x_last (pc := 11) C ar_64 b8 (d_L_open 8 rfl) ?_
            refine x_goto (pc := 12) (tgt := 23) C (d_L_open 9 rfl) (by decide) ?_
            refine x_iconst (pc := 23) (v := 0) C (by decide) (d_L_open 16 rfl) ?_
            cases h
            exact x_iret (pc := 24) C hret rfl (Nat.zero_le _) (Nat.zero_le _) (d_L_open 17 rfl)
          · rw [if_neg b8] at h; cases h
def f_L_pipe (x0 : Option Nat) (x1 : Int32) (x2 : Option Nat) (st : XS) : Option (Int32 × XS) :=
  match x0 with
  | none => none
  | some i1 =>
    match f_D_pipe i1 x1 st with
    | none => none
    | some (.inr e_10, st5) =>
      if e_10 = "java/lang/IllegalStateException" then
        some (1, st5)
      else none
    | some (.inl v4, st5) =>
      match x2 with
      | none => none
      | some i6 =>
        if x_in 0 1 then
          some (0, xsJ st5 64 i6 (0 : Int32).toNatClampNeg (v4.toInt64))
        else none
set_option maxRecDepth 100000 in
set_option maxHeartbeats 4000000 in
theorem m_L_pipe (l : Launch) (hfl : l.flags = flags0) {x0 : Option Nat} {x1 : Int32} {x2 : Option Nat} {st : XS} {r : Int32} {st2 : XS} (h : f_L_pipe x0 x1 x2 st = some (r, st2)) : x_M l M_L_pipe rm_L_pipe [xR 0 (x0), xI (x1), xR 64 (x2)] st (.inl (some (xI r))) st2 1 6 := by
  refine x_enter (Nat.le_of_ble_eq_true rfl) ?_
  intro p e s m below meth c D cA g args B C
  have hret := B.2.2.2.2.2.2.2.2.1
  have hmn := B.2.2.2.2.2.2.2.1
  have hex := B.2.2.2.2.2.2.2.2.2.1
  unfold f_L_pipe at h
  refine x_aload_n (pc := 0) C (d_L_pipe 0 rfl) rfl 2 rfl ?_
  refine x_iconst (pc := 1) (v := 0) C (by decide) (d_L_pipe 1 rfl) ?_
  refine x_aload_n (pc := 2) C (d_L_pipe 2 rfl) rfl 0 rfl ?_
  refine x_iload_n (pc := 3) C (d_L_pipe 3 rfl) rfl 1 rfl ?_
  cases c2 : x0 with
  | none => rw [c2] at h; cases h
  | some i1 =>
    rw [c2] at h
    dsimp only at h
    cases c3 : f_D_pipe i1 x1 st with
    | none => rw [c3] at h; cases h
    | some w9 =>
      obtain ⟨w9, st5⟩ := w9
      cases w9 with
      | inr e_10 =>
        rw [c3] at h
        dsimp only at h
        by_cases q13 : e_10 = "java/lang/IllegalStateException"
        · subst q13
          rw [if_pos rfl] at h
          refine x_callVt (mc := 1) (ms := 6) (pc := 4) (bL := [xI (x1)]) (K := [xI (0), xR 64 (x2)]) C cs_L_24 (m_D_pipe l hfl c3 : x_M l _ _ _ _ (.inr "java/lang/IllegalStateException") _ 1 6) (by decide) rfl (Nat.le_of_ble_eq_true rfl) (d_L_pipe 4 rfl) (x_catch (pre := []) (r := (0, 9, 12, 13)) (rest := []) C hex (Or.inl rfl) (by decide) (by decide) w_331 C.2.2.2.2.2.2.2.2.1.1 (fun a11 => ?_))
          refine x_astore_n (pc := 12) (L2 := [(3, xA (a11)), (0, xR 0 (some (i1))), (1, xI (x1)), (2, xR 64 (x2))]) C (d_L_pipe 8 rfl) rfl (by decide) rfl ?_
          refine x_iconst (pc := 13) (v := 1) C (by decide) (d_L_pipe 9 rfl) ?_
          cases h
          exact x_iret (pc := 14) C hret rfl (Nat.le_of_ble_eq_true rfl) (Nat.le_of_ble_eq_true rfl) (d_L_pipe 10 rfl)
        · rw [if_neg q13] at h
          cases h
      | inl v4 =>
        rw [c3] at h
        dsimp only at h
        refine x_callV (mc := 0) (ms := 0) (pc := 4) (bL := [xI (x1)]) (K := [xI (0), xR 64 (x2)]) C cs_L_24 (m_D_pipe l hfl c3 : x_M l _ _ _ _ (.inl (some (xI v4))) _ 0 0) (by decide) rfl (Nat.le_of_ble_eq_true rfl) (d_L_pipe 4 rfl) ?_
        refine x_i2l (pc := 7) C (d_L_pipe 5 rfl) ?_
        cases c7 : x2 with
        | none => rw [c7] at h; cases h
        | some i6 =>
          rw [c7] at h
          dsimp only at h
          by_cases b8 : x_in 0 1
          · rw [if_pos b8] at h
            refine x_last (pc := 8) C ar_64 b8 (d_L_pipe 6 rfl) ?_
            refine x_goto (pc := 9) (tgt := 15) C (d_L_pipe 7 rfl) (by decide) ?_
            refine x_iconst (pc := 15) (v := 0) C (by decide) (d_L_pipe 11 rfl) ?_
            cases h
            exact x_iret (pc := 16) C hret rfl (Nat.zero_le _) (Nat.zero_le _) (d_L_pipe 12 rfl)
          · rw [if_neg b8] at h; cases h
def f_L_read (x0 : Option Nat) (x1 : Int32) (x2 : Int32) (x3 : Int32) (x4 : Option Nat) (st : XS) : Option (Int32 × XS) :=
  match x0 with
  | none => none
  | some i1 =>
    match f_D_read i1 x1 x2 x3 st with
    | none => none
    | some (.inr e_10, st5) =>
      if e_10 = "java/lang/IllegalStateException" then
        some (1, st5)
      else if e_10 = "java/lang/IllegalArgumentException" then
        some (2, st5)
      else none
    | some (.inl v4, st5) =>
      match x4 with
      | none => none
      | some i6 =>
        if x_in 0 1 then
          some (0, xsJ st5 64 i6 (0 : Int32).toNatClampNeg (v4.toInt64))
        else none
set_option maxRecDepth 100000 in
set_option maxHeartbeats 4000000 in
theorem m_L_read (l : Launch) (hfl : l.flags = flags0) {x0 : Option Nat} {x1 : Int32} {x2 : Int32} {x3 : Int32} {x4 : Option Nat} {st : XS} {r : Int32} {st2 : XS} (h : f_L_read x0 x1 x2 x3 x4 st = some (r, st2)) : x_M l M_L_read rm_L_read [xR 0 (x0), xI (x1), xI (x2), xI (x3), xR 64 (x4)] st (.inl (some (xI r))) st2 1 6 := by
  refine x_enter (Nat.le_of_ble_eq_true rfl) ?_
  intro p e s m below meth c D cA g args B C
  have hret := B.2.2.2.2.2.2.2.2.1
  have hmn := B.2.2.2.2.2.2.2.1
  have hex := B.2.2.2.2.2.2.2.2.2.1
  unfold f_L_read at h
  refine x_aload (pc := 0) C (d_L_read 0 rfl) 4 rfl ?_
  refine x_iconst (pc := 2) (v := 0) C (by decide) (d_L_read 1 rfl) ?_
  refine x_aload_n (pc := 3) C (d_L_read 2 rfl) rfl 0 rfl ?_
  refine x_iload_n (pc := 4) C (d_L_read 3 rfl) rfl 1 rfl ?_
  refine x_iload_n (pc := 5) C (d_L_read 4 rfl) rfl 2 rfl ?_
  refine x_iload_n (pc := 6) C (d_L_read 5 rfl) rfl 3 rfl ?_
  cases c2 : x0 with
  | none => rw [c2] at h; cases h
  | some i1 =>
    rw [c2] at h
    dsimp only at h
    cases c3 : f_D_read i1 x1 x2 x3 st with
    | none => rw [c3] at h; cases h
    | some w9 =>
      obtain ⟨w9, st5⟩ := w9
      cases w9 with
      | inr e_10 =>
        rw [c3] at h
        dsimp only at h
        by_cases q15 : e_10 = "java/lang/IllegalStateException"
        · subst q15
          rw [if_pos rfl] at h
          refine x_callVt (mc := 1) (ms := 6) (pc := 7) (bL := [xI (x1), xI (x2), xI (x3)]) (K := [xI (0), xR 64 (x4)]) C cs_L_27 (m_D_read l hfl c3 : x_M l _ _ _ _ (.inr "java/lang/IllegalStateException") _ 1 6) (by decide) rfl (Nat.le_of_ble_eq_true rfl) (d_L_read 6 rfl) (x_catch (pre := []) (r := (0, 12, 15, 13)) (rest := [(0, 12, 19, 22)]) C hex (Or.inl rfl) (by decide) (by decide) w_331 C.2.2.2.2.2.2.2.2.1.1 (fun a11 => ?_))
          refine x_astore (pc := 15) (L2 := [(5, xA (a11)), (0, xR 0 (some (i1))), (1, xI (x1)), (2, xI (x2)), (3, xI (x3)), (4, xR 64 (x4))]) C (d_L_read 10 rfl) (by decide) rfl ?_
          refine x_iconst (pc := 17) (v := 1) C (by decide) (d_L_read 11 rfl) ?_
          cases h
          exact x_iret (pc := 18) C hret rfl (Nat.le_of_ble_eq_true rfl) (Nat.le_of_ble_eq_true rfl) (d_L_read 12 rfl)
        · rw [if_neg q15] at h
          by_cases q16 : e_10 = "java/lang/IllegalArgumentException"
          · subst q16
            rw [if_pos rfl] at h
            refine x_callVt (mc := 1) (ms := 6) (pc := 7) (bL := [xI (x1), xI (x2), xI (x3)]) (K := [xI (0), xR 64 (x4)]) C cs_L_27 (m_D_read l hfl c3 : x_M l _ _ _ _ (.inr "java/lang/IllegalArgumentException") _ 1 6) (by decide) rfl (Nat.le_of_ble_eq_true rfl) (d_L_read 6 rfl) (x_catch (pre := [(0, 12, 15, 13)]) (r := (0, 12, 19, 22)) (rest := []) C hex (Or.inr ⟨(0, 12, 15, 13), "java/lang/IllegalStateException", rfl, by decide, by decide, w_331, C.2.2.2.2.2.2.2.2.2.2.2.2.2.1 ("java/lang/IllegalArgumentException", "java/lang/IllegalStateException") (by decide)⟩) (by decide) (by decide) w_441 C.2.2.2.2.2.2.2.2.1.2 (fun a12 => ?_))
            refine x_astore (pc := 19) (L2 := [(5, xA (a12)), (0, xR 0 (some (i1))), (1, xI (x1)), (2, xI (x2)), (3, xI (x3)), (4, xR 64 (x4))]) C (d_L_read 13 rfl) (by decide) rfl ?_
            refine x_iconst (pc := 21) (v := 2) C (by decide) (d_L_read 14 rfl) ?_
            cases h
            exact x_iret (pc := 22) C hret rfl (Nat.le_of_ble_eq_true rfl) (Nat.le_of_ble_eq_true rfl) (d_L_read 15 rfl)
          · rw [if_neg q16] at h
            cases h
      | inl v4 =>
        rw [c3] at h
        dsimp only at h
        refine x_callV (mc := 0) (ms := 0) (pc := 7) (bL := [xI (x1), xI (x2), xI (x3)]) (K := [xI (0), xR 64 (x4)]) C cs_L_27 (m_D_read l hfl c3 : x_M l _ _ _ _ (.inl (some (xI v4))) _ 0 0) (by decide) rfl (Nat.le_of_ble_eq_true rfl) (d_L_read 6 rfl) ?_
        refine x_i2l (pc := 10) C (d_L_read 7 rfl) ?_
        cases c7 : x4 with
        | none => rw [c7] at h; cases h
        | some i6 =>
          rw [c7] at h
          dsimp only at h
          by_cases b8 : x_in 0 1
          · rw [if_pos b8] at h
            refine x_last (pc := 11) C ar_64 b8 (d_L_read 8 rfl) ?_
            refine x_goto (pc := 12) (tgt := 23) C (d_L_read 9 rfl) (by decide) ?_
            refine x_iconst (pc := 23) (v := 0) C (by decide) (d_L_read 16 rfl) ?_
            cases h
            exact x_iret (pc := 24) C hret rfl (Nat.zero_le _) (Nat.zero_le _) (d_L_read 17 rfl)
          · rw [if_neg b8] at h; cases h
def f_L_write (x0 : Option Nat) (x1 : Int32) (x2 : Int32) (x3 : Int64) (x5 : Int32) (x6 : Option Nat) (st : XS) : Option (Int32 × XS) :=
  match x0 with
  | none => none
  | some i1 =>
    match f_D_write i1 x1 x2 x3 x5 st with
    | none => none
    | some (.inr e_10, st5) =>
      if e_10 = "java/lang/IllegalStateException" then
        some (1, st5)
      else if e_10 = "java/lang/IllegalArgumentException" then
        some (2, st5)
      else none
    | some (.inl v4, st5) =>
      match x6 with
      | none => none
      | some i6 =>
        if x_in 0 1 then
          some (0, xsJ st5 64 i6 (0 : Int32).toNatClampNeg (v4.toInt64))
        else none
set_option maxRecDepth 100000 in
set_option maxHeartbeats 4000000 in
theorem m_L_write (l : Launch) (hfl : l.flags = flags0) {x0 : Option Nat} {x1 : Int32} {x2 : Int32} {x3 : Int64} {x5 : Int32} {x6 : Option Nat} {st : XS} {r : Int32} {st2 : XS} (h : f_L_write x0 x1 x2 x3 x5 x6 st = some (r, st2)) : x_M l M_L_write rm_L_write [xR 0 (x0), xI (x1), xI (x2), xL (x3), xI (x5), xR 64 (x6)] st (.inl (some (xI r))) st2 1 6 := by
  refine x_enter (Nat.le_of_ble_eq_true rfl) ?_
  intro p e s m below meth c D cA g args B C
  have hret := B.2.2.2.2.2.2.2.2.1
  have hmn := B.2.2.2.2.2.2.2.1
  have hex := B.2.2.2.2.2.2.2.2.2.1
  unfold f_L_write at h
  refine x_aload (pc := 0) C (d_L_write 0 rfl) 5 rfl ?_
  refine x_iconst (pc := 2) (v := 0) C (by decide) (d_L_write 1 rfl) ?_
  refine x_aload_n (pc := 3) C (d_L_write 2 rfl) rfl 0 rfl ?_
  refine x_iload_n (pc := 4) C (d_L_write 3 rfl) rfl 1 rfl ?_
  refine x_iload_n (pc := 5) C (d_L_write 4 rfl) rfl 2 rfl ?_
  refine x_lload_n (pc := 6) C (d_L_write 5 rfl) rfl 3 rfl ?_
  refine x_iload (pc := 7) C (d_L_write 6 rfl) 4 rfl ?_
  cases c2 : x0 with
  | none => rw [c2] at h; cases h
  | some i1 =>
    rw [c2] at h
    dsimp only at h
    cases c3 : f_D_write i1 x1 x2 x3 x5 st with
    | none => rw [c3] at h; cases h
    | some w9 =>
      obtain ⟨w9, st5⟩ := w9
      cases w9 with
      | inr e_10 =>
        rw [c3] at h
        dsimp only at h
        by_cases q15 : e_10 = "java/lang/IllegalStateException"
        · subst q15
          rw [if_pos rfl] at h
          refine x_callVt (mc := 1) (ms := 6) (pc := 9) (bL := [xI (x1), xI (x2), xL (x3), xI (x5)]) (K := [xI (0), xR 64 (x6)]) C cs_L_30 (m_D_write l hfl c3 : x_M l _ _ _ _ (.inr "java/lang/IllegalStateException") _ 1 6) (by decide) rfl (Nat.le_of_ble_eq_true rfl) (d_L_write 7 rfl) (x_catch (pre := []) (r := (0, 14, 17, 13)) (rest := [(0, 14, 21, 22)]) C hex (Or.inl rfl) (by decide) (by decide) w_331 C.2.2.2.2.2.2.2.2.1.1 (fun a11 => ?_))
          refine x_astore (pc := 17) (L2 := [(7, xA (a11)), (0, xR 0 (some (i1))), (1, xI (x1)), (2, xI (x2)), (3, xL (x3)), (5, xI (x5)), (6, xR 64 (x6))]) C (d_L_write 11 rfl) (by decide) rfl ?_
          refine x_iconst (pc := 19) (v := 1) C (by decide) (d_L_write 12 rfl) ?_
          cases h
          exact x_iret (pc := 20) C hret rfl (Nat.le_of_ble_eq_true rfl) (Nat.le_of_ble_eq_true rfl) (d_L_write 13 rfl)
        · rw [if_neg q15] at h
          by_cases q16 : e_10 = "java/lang/IllegalArgumentException"
          · subst q16
            rw [if_pos rfl] at h
            refine x_callVt (mc := 1) (ms := 6) (pc := 9) (bL := [xI (x1), xI (x2), xL (x3), xI (x5)]) (K := [xI (0), xR 64 (x6)]) C cs_L_30 (m_D_write l hfl c3 : x_M l _ _ _ _ (.inr "java/lang/IllegalArgumentException") _ 1 6) (by decide) rfl (Nat.le_of_ble_eq_true rfl) (d_L_write 7 rfl) (x_catch (pre := [(0, 14, 17, 13)]) (r := (0, 14, 21, 22)) (rest := []) C hex (Or.inr ⟨(0, 14, 17, 13), "java/lang/IllegalStateException", rfl, by decide, by decide, w_331, C.2.2.2.2.2.2.2.2.2.2.2.2.2.1 ("java/lang/IllegalArgumentException", "java/lang/IllegalStateException") (by decide)⟩) (by decide) (by decide) w_441 C.2.2.2.2.2.2.2.2.1.2 (fun a12 => ?_))
            refine x_astore (pc := 21) (L2 := [(7, xA (a12)), (0, xR 0 (some (i1))), (1, xI (x1)), (2, xI (x2)), (3, xL (x3)), (5, xI (x5)), (6, xR 64 (x6))]) C (d_L_write 14 rfl) (by decide) rfl ?_
            refine x_iconst (pc := 23) (v := 2) C (by decide) (d_L_write 15 rfl) ?_
            cases h
            exact x_iret (pc := 24) C hret rfl (Nat.le_of_ble_eq_true rfl) (Nat.le_of_ble_eq_true rfl) (d_L_write 16 rfl)
          · rw [if_neg q16] at h
            cases h
      | inl v4 =>
        rw [c3] at h
        dsimp only at h
        refine x_callV (mc := 0) (ms := 0) (pc := 9) (bL := [xI (x1), xI (x2), xL (x3), xI (x5)]) (K := [xI (0), xR 64 (x6)]) C cs_L_30 (m_D_write l hfl c3 : x_M l _ _ _ _ (.inl (some (xI v4))) _ 0 0) (by decide) rfl (Nat.le_of_ble_eq_true rfl) (d_L_write 7 rfl) ?_
        refine x_i2l (pc := 12) C (d_L_write 8 rfl) ?_
        cases c7 : x6 with
        | none => rw [c7] at h; cases h
        | some i6 =>
          rw [c7] at h
          dsimp only at h
          by_cases b8 : x_in 0 1
          · rw [if_pos b8] at h
            refine x_last (pc := 13) C ar_64 b8 (d_L_write 9 rfl) ?_
            refine x_goto (pc := 14) (tgt := 25) C (d_L_write 10 rfl) (by decide) ?_
            refine x_iconst (pc := 25) (v := 0) C (by decide) (d_L_write 17 rfl) ?_
            cases h
            exact x_iret (pc := 26) C hret rfl (Nat.zero_le _) (Nat.zero_le _) (d_L_write 18 rfl)
          · rw [if_neg b8] at h; cases h
def f_L_close (x0 : Option Nat) (x1 : Int32) (x2 : Int32) (x3 : Option Nat) (st : XS) : Option (Int32 × XS) :=
  match x0 with
  | none => none
  | some i1 =>
    match f_D_close i1 x1 x2 st with
    | none => none
    | some (.inr e_10, st5) =>
      if e_10 = "java/lang/IllegalStateException" then
        some (1, st5)
      else none
    | some (.inl v4, st5) =>
      match x3 with
      | none => none
      | some i6 =>
        if x_in 0 1 then
          some (0, xsJ st5 64 i6 (0 : Int32).toNatClampNeg (v4.toInt64))
        else none
set_option maxRecDepth 100000 in
set_option maxHeartbeats 4000000 in
theorem m_L_close (l : Launch) (hfl : l.flags = flags0) {x0 : Option Nat} {x1 : Int32} {x2 : Int32} {x3 : Option Nat} {st : XS} {r : Int32} {st2 : XS} (h : f_L_close x0 x1 x2 x3 st = some (r, st2)) : x_M l M_L_close rm_L_close [xR 0 (x0), xI (x1), xI (x2), xR 64 (x3)] st (.inl (some (xI r))) st2 1 6 := by
  refine x_enter (Nat.le_of_ble_eq_true rfl) ?_
  intro p e s m below meth c D cA g args B C
  have hret := B.2.2.2.2.2.2.2.2.1
  have hmn := B.2.2.2.2.2.2.2.1
  have hex := B.2.2.2.2.2.2.2.2.2.1
  unfold f_L_close at h
  refine x_aload_n (pc := 0) C (d_L_close 0 rfl) rfl 3 rfl ?_
  refine x_iconst (pc := 1) (v := 0) C (by decide) (d_L_close 1 rfl) ?_
  refine x_aload_n (pc := 2) C (d_L_close 2 rfl) rfl 0 rfl ?_
  refine x_iload_n (pc := 3) C (d_L_close 3 rfl) rfl 1 rfl ?_
  refine x_iload_n (pc := 4) C (d_L_close 4 rfl) rfl 2 rfl ?_
  cases c2 : x0 with
  | none => rw [c2] at h; cases h
  | some i1 =>
    rw [c2] at h
    dsimp only at h
    cases c3 : f_D_close i1 x1 x2 st with
    | none => rw [c3] at h; cases h
    | some w9 =>
      obtain ⟨w9, st5⟩ := w9
      cases w9 with
      | inr e_10 =>
        rw [c3] at h
        dsimp only at h
        by_cases q13 : e_10 = "java/lang/IllegalStateException"
        · subst q13
          rw [if_pos rfl] at h
          refine x_callVt (mc := 1) (ms := 6) (pc := 5) (bL := [xI (x1), xI (x2)]) (K := [xI (0), xR 64 (x3)]) C cs_L_34 (m_D_close l hfl c3 : x_M l _ _ _ _ (.inr "java/lang/IllegalStateException") _ 1 6) (by decide) rfl (Nat.le_of_ble_eq_true rfl) (d_L_close 5 rfl) (x_catch (pre := []) (r := (0, 10, 13, 13)) (rest := []) C hex (Or.inl rfl) (by decide) (by decide) w_331 C.2.2.2.2.2.2.2.2.1.1 (fun a11 => ?_))
          refine x_astore (pc := 13) (L2 := [(4, xA (a11)), (0, xR 0 (some (i1))), (1, xI (x1)), (2, xI (x2)), (3, xR 64 (x3))]) C (d_L_close 9 rfl) (by decide) rfl ?_
          refine x_iconst (pc := 15) (v := 1) C (by decide) (d_L_close 10 rfl) ?_
          cases h
          exact x_iret (pc := 16) C hret rfl (Nat.le_of_ble_eq_true rfl) (Nat.le_of_ble_eq_true rfl) (d_L_close 11 rfl)
        · rw [if_neg q13] at h
          cases h
      | inl v4 =>
        rw [c3] at h
        dsimp only at h
        refine x_callV (mc := 0) (ms := 0) (pc := 5) (bL := [xI (x1), xI (x2)]) (K := [xI (0), xR 64 (x3)]) C cs_L_34 (m_D_close l hfl c3 : x_M l _ _ _ _ (.inl (some (xI v4))) _ 0 0) (by decide) rfl (Nat.le_of_ble_eq_true rfl) (d_L_close 5 rfl) ?_
        refine x_i2l (pc := 8) C (d_L_close 6 rfl) ?_
        cases c7 : x3 with
        | none => rw [c7] at h; cases h
        | some i6 =>
          rw [c7] at h
          dsimp only at h
          by_cases b8 : x_in 0 1
          · rw [if_pos b8] at h
            refine x_last (pc := 9) C ar_64 b8 (d_L_close 7 rfl) ?_
            refine x_goto (pc := 10) (tgt := 17) C (d_L_close 8 rfl) (by decide) ?_
            refine x_iconst (pc := 17) (v := 0) C (by decide) (d_L_close 12 rfl) ?_
            cases h
            exact x_iret (pc := 18) C hret rfl (Nat.zero_le _) (Nat.zero_le _) (d_L_close 13 rfl)
          · rw [if_neg b8] at h; cases h
def f_L_dup (x0 : Option Nat) (x1 : Int32) (x2 : Int32) (x3 : Int32) (x4 : Option Nat) (st : XS) : Option (Int32 × XS) :=
  match x0 with
  | none => none
  | some i1 =>
    match f_D_dup i1 x1 x2 x3 st with
    | none => none
    | some (.inr e_10, st5) =>
      if e_10 = "java/lang/IllegalStateException" then
        some (1, st5)
      else if e_10 = "java/lang/IllegalArgumentException" then
        some (2, st5)
      else none
    | some (.inl v4, st5) =>
      match x4 with
      | none => none
      | some i6 =>
        if x_in 0 1 then
          some (0, xsJ st5 64 i6 (0 : Int32).toNatClampNeg (v4.toInt64))
        else none
set_option maxRecDepth 100000 in
set_option maxHeartbeats 4000000 in
theorem m_L_dup (l : Launch) (hfl : l.flags = flags0) {x0 : Option Nat} {x1 : Int32} {x2 : Int32} {x3 : Int32} {x4 : Option Nat} {st : XS} {r : Int32} {st2 : XS} (h : f_L_dup x0 x1 x2 x3 x4 st = some (r, st2)) : x_M l M_L_dup rm_L_dup [xR 0 (x0), xI (x1), xI (x2), xI (x3), xR 64 (x4)] st (.inl (some (xI r))) st2 1 6 := by
  refine x_enter (Nat.le_of_ble_eq_true rfl) ?_
  intro p e s m below meth c D cA g args B C
  have hret := B.2.2.2.2.2.2.2.2.1
  have hmn := B.2.2.2.2.2.2.2.1
  have hex := B.2.2.2.2.2.2.2.2.2.1
  unfold f_L_dup at h
  refine x_aload (pc := 0) C (d_L_dup 0 rfl) 4 rfl ?_
  refine x_iconst (pc := 2) (v := 0) C (by decide) (d_L_dup 1 rfl) ?_
  refine x_aload_n (pc := 3) C (d_L_dup 2 rfl) rfl 0 rfl ?_
  refine x_iload_n (pc := 4) C (d_L_dup 3 rfl) rfl 1 rfl ?_
  refine x_iload_n (pc := 5) C (d_L_dup 4 rfl) rfl 2 rfl ?_
  refine x_iload_n (pc := 6) C (d_L_dup 5 rfl) rfl 3 rfl ?_
  cases c2 : x0 with
  | none => rw [c2] at h; cases h
  | some i1 =>
    rw [c2] at h
    dsimp only at h
    cases c3 : f_D_dup i1 x1 x2 x3 st with
    | none => rw [c3] at h; cases h
    | some w9 =>
      obtain ⟨w9, st5⟩ := w9
      cases w9 with
      | inr e_10 =>
        rw [c3] at h
        dsimp only at h
        by_cases q15 : e_10 = "java/lang/IllegalStateException"
        · subst q15
          rw [if_pos rfl] at h
          refine x_callVt (mc := 1) (ms := 6) (pc := 7) (bL := [xI (x1), xI (x2), xI (x3)]) (K := [xI (0), xR 64 (x4)]) C cs_L_38 (m_D_dup l hfl c3 : x_M l _ _ _ _ (.inr "java/lang/IllegalStateException") _ 1 6) (by decide) rfl (Nat.le_of_ble_eq_true rfl) (d_L_dup 6 rfl) (x_catch (pre := []) (r := (0, 12, 15, 13)) (rest := [(0, 12, 19, 22)]) C hex (Or.inl rfl) (by decide) (by decide) w_331 C.2.2.2.2.2.2.2.2.1.1 (fun a11 => ?_))
          refine x_astore (pc := 15) (L2 := [(5, xA (a11)), (0, xR 0 (some (i1))), (1, xI (x1)), (2, xI (x2)), (3, xI (x3)), (4, xR 64 (x4))]) C (d_L_dup 10 rfl) (by decide) rfl ?_
          refine x_iconst (pc := 17) (v := 1) C (by decide) (d_L_dup 11 rfl) ?_
          cases h
          exact x_iret (pc := 18) C hret rfl (Nat.le_of_ble_eq_true rfl) (Nat.le_of_ble_eq_true rfl) (d_L_dup 12 rfl)
        · rw [if_neg q15] at h
          by_cases q16 : e_10 = "java/lang/IllegalArgumentException"
          · subst q16
            rw [if_pos rfl] at h
            refine x_callVt (mc := 1) (ms := 6) (pc := 7) (bL := [xI (x1), xI (x2), xI (x3)]) (K := [xI (0), xR 64 (x4)]) C cs_L_38 (m_D_dup l hfl c3 : x_M l _ _ _ _ (.inr "java/lang/IllegalArgumentException") _ 1 6) (by decide) rfl (Nat.le_of_ble_eq_true rfl) (d_L_dup 6 rfl) (x_catch (pre := [(0, 12, 15, 13)]) (r := (0, 12, 19, 22)) (rest := []) C hex (Or.inr ⟨(0, 12, 15, 13), "java/lang/IllegalStateException", rfl, by decide, by decide, w_331, C.2.2.2.2.2.2.2.2.2.2.2.2.2.1 ("java/lang/IllegalArgumentException", "java/lang/IllegalStateException") (by decide)⟩) (by decide) (by decide) w_441 C.2.2.2.2.2.2.2.2.1.2 (fun a12 => ?_))
            refine x_astore (pc := 19) (L2 := [(5, xA (a12)), (0, xR 0 (some (i1))), (1, xI (x1)), (2, xI (x2)), (3, xI (x3)), (4, xR 64 (x4))]) C (d_L_dup 13 rfl) (by decide) rfl ?_
            refine x_iconst (pc := 21) (v := 2) C (by decide) (d_L_dup 14 rfl) ?_
            cases h
            exact x_iret (pc := 22) C hret rfl (Nat.le_of_ble_eq_true rfl) (Nat.le_of_ble_eq_true rfl) (d_L_dup 15 rfl)
          · rw [if_neg q16] at h
            cases h
      | inl v4 =>
        rw [c3] at h
        dsimp only at h
        refine x_callV (mc := 0) (ms := 0) (pc := 7) (bL := [xI (x1), xI (x2), xI (x3)]) (K := [xI (0), xR 64 (x4)]) C cs_L_38 (m_D_dup l hfl c3 : x_M l _ _ _ _ (.inl (some (xI v4))) _ 0 0) (by decide) rfl (Nat.le_of_ble_eq_true rfl) (d_L_dup 6 rfl) ?_
        refine x_i2l (pc := 10) C (d_L_dup 7 rfl) ?_
        cases c7 : x4 with
        | none => rw [c7] at h; cases h
        | some i6 =>
          rw [c7] at h
          dsimp only at h
          by_cases b8 : x_in 0 1
          · rw [if_pos b8] at h
            refine x_last (pc := 11) C ar_64 b8 (d_L_dup 8 rfl) ?_
            refine x_goto (pc := 12) (tgt := 23) C (d_L_dup 9 rfl) (by decide) ?_
            refine x_iconst (pc := 23) (v := 0) C (by decide) (d_L_dup 16 rfl) ?_
            cases h
            exact x_iret (pc := 24) C hret rfl (Nat.zero_le _) (Nat.zero_le _) (d_L_dup 17 rfl)
          · rw [if_neg b8] at h; cases h
def f_L_seek (x0 : Option Nat) (x1 : Int32) (x2 : Int32) (x3 : Int32) (x4 : Int32) (x5 : Option Nat) (st : XS) : Option (Int32 × XS) :=
  match x0 with
  | none => none
  | some i1 =>
    match f_D_seek i1 x1 x2 x3 x4 st with
    | none => none
    | some (.inr e_10, st5) =>
      if e_10 = "java/lang/IllegalStateException" then
        some (1, st5)
      else if e_10 = "java/lang/IllegalArgumentException" then
        some (2, st5)
      else none
    | some (.inl v4, st5) =>
      match x5 with
      | none => none
      | some i6 =>
        if x_in 0 1 then
          some (0, xsJ st5 64 i6 (0 : Int32).toNatClampNeg (v4.toInt64))
        else none
set_option maxRecDepth 100000 in
set_option maxHeartbeats 4000000 in
theorem m_L_seek (l : Launch) (hfl : l.flags = flags0) {x0 : Option Nat} {x1 : Int32} {x2 : Int32} {x3 : Int32} {x4 : Int32} {x5 : Option Nat} {st : XS} {r : Int32} {st2 : XS} (h : f_L_seek x0 x1 x2 x3 x4 x5 st = some (r, st2)) : x_M l M_L_seek rm_L_seek [xR 0 (x0), xI (x1), xI (x2), xI (x3), xI (x4), xR 64 (x5)] st (.inl (some (xI r))) st2 1 6 := by
  refine x_enter (Nat.le_of_ble_eq_true rfl) ?_
  intro p e s m below meth c D cA g args B C
  have hret := B.2.2.2.2.2.2.2.2.1
  have hmn := B.2.2.2.2.2.2.2.1
  have hex := B.2.2.2.2.2.2.2.2.2.1
  unfold f_L_seek at h
  refine x_aload (pc := 0) C (d_L_seek 0 rfl) 5 rfl ?_
  refine x_iconst (pc := 2) (v := 0) C (by decide) (d_L_seek 1 rfl) ?_
  refine x_aload_n (pc := 3) C (d_L_seek 2 rfl) rfl 0 rfl ?_
  refine x_iload_n (pc := 4) C (d_L_seek 3 rfl) rfl 1 rfl ?_
  refine x_iload_n (pc := 5) C (d_L_seek 4 rfl) rfl 2 rfl ?_
  refine x_iload_n (pc := 6) C (d_L_seek 5 rfl) rfl 3 rfl ?_
  refine x_iload (pc := 7) C (d_L_seek 6 rfl) 4 rfl ?_
  cases c2 : x0 with
  | none => rw [c2] at h; cases h
  | some i1 =>
    rw [c2] at h
    dsimp only at h
    cases c3 : f_D_seek i1 x1 x2 x3 x4 st with
    | none => rw [c3] at h; cases h
    | some w9 =>
      obtain ⟨w9, st5⟩ := w9
      cases w9 with
      | inr e_10 =>
        rw [c3] at h
        dsimp only at h
        by_cases q15 : e_10 = "java/lang/IllegalStateException"
        · subst q15
          rw [if_pos rfl] at h
          refine x_callVt (mc := 1) (ms := 6) (pc := 9) (bL := [xI (x1), xI (x2), xI (x3), xI (x4)]) (K := [xI (0), xR 64 (x5)]) C cs_L_41 (m_D_seek l hfl c3 : x_M l _ _ _ _ (.inr "java/lang/IllegalStateException") _ 1 6) (by decide) rfl (Nat.le_of_ble_eq_true rfl) (d_L_seek 7 rfl) (x_catch (pre := []) (r := (0, 14, 17, 13)) (rest := [(0, 14, 21, 22)]) C hex (Or.inl rfl) (by decide) (by decide) w_331 C.2.2.2.2.2.2.2.2.1.1 (fun a11 => ?_))
          refine x_astore (pc := 17) (L2 := [(6, xA (a11)), (0, xR 0 (some (i1))), (1, xI (x1)), (2, xI (x2)), (3, xI (x3)), (4, xI (x4)), (5, xR 64 (x5))]) C (d_L_seek 11 rfl) (by decide) rfl ?_
          refine x_iconst (pc := 19) (v := 1) C (by decide) (d_L_seek 12 rfl) ?_
          cases h
          exact x_iret (pc := 20) C hret rfl (Nat.le_of_ble_eq_true rfl) (Nat.le_of_ble_eq_true rfl) (d_L_seek 13 rfl)
        · rw [if_neg q15] at h
          by_cases q16 : e_10 = "java/lang/IllegalArgumentException"
          · subst q16
            rw [if_pos rfl] at h
            refine x_callVt (mc := 1) (ms := 6) (pc := 9) (bL := [xI (x1), xI (x2), xI (x3), xI (x4)]) (K := [xI (0), xR 64 (x5)]) C cs_L_41 (m_D_seek l hfl c3 : x_M l _ _ _ _ (.inr "java/lang/IllegalArgumentException") _ 1 6) (by decide) rfl (Nat.le_of_ble_eq_true rfl) (d_L_seek 7 rfl) (x_catch (pre := [(0, 14, 17, 13)]) (r := (0, 14, 21, 22)) (rest := []) C hex (Or.inr ⟨(0, 14, 17, 13), "java/lang/IllegalStateException", rfl, by decide, by decide, w_331, C.2.2.2.2.2.2.2.2.2.2.2.2.2.1 ("java/lang/IllegalArgumentException", "java/lang/IllegalStateException") (by decide)⟩) (by decide) (by decide) w_441 C.2.2.2.2.2.2.2.2.1.2 (fun a12 => ?_))
            refine x_astore (pc := 21) (L2 := [(6, xA (a12)), (0, xR 0 (some (i1))), (1, xI (x1)), (2, xI (x2)), (3, xI (x3)), (4, xI (x4)), (5, xR 64 (x5))]) C (d_L_seek 14 rfl) (by decide) rfl ?_
            refine x_iconst (pc := 23) (v := 2) C (by decide) (d_L_seek 15 rfl) ?_
            cases h
            exact x_iret (pc := 24) C hret rfl (Nat.le_of_ble_eq_true rfl) (Nat.le_of_ble_eq_true rfl) (d_L_seek 16 rfl)
          · rw [if_neg q16] at h
            cases h
      | inl v4 =>
        rw [c3] at h
        dsimp only at h
        refine x_callV (mc := 0) (ms := 0) (pc := 9) (bL := [xI (x1), xI (x2), xI (x3), xI (x4)]) (K := [xI (0), xR 64 (x5)]) C cs_L_41 (m_D_seek l hfl c3 : x_M l _ _ _ _ (.inl (some (xI v4))) _ 0 0) (by decide) rfl (Nat.le_of_ble_eq_true rfl) (d_L_seek 7 rfl) ?_
        refine x_i2l (pc := 12) C (d_L_seek 8 rfl) ?_
        cases c7 : x5 with
        | none => rw [c7] at h; cases h
        | some i6 =>
          rw [c7] at h
          dsimp only at h
          by_cases b8 : x_in 0 1
          · rw [if_pos b8] at h
            refine x_last (pc := 13) C ar_64 b8 (d_L_seek 9 rfl) ?_
            refine x_goto (pc := 14) (tgt := 25) C (d_L_seek 10 rfl) (by decide) ?_
            refine x_iconst (pc := 25) (v := 0) C (by decide) (d_L_seek 17 rfl) ?_
            cases h
            exact x_iret (pc := 26) C hret rfl (Nat.zero_le _) (Nat.zero_le _) (d_L_seek 18 rfl)
          · rw [if_neg b8] at h; cases h
def f_L_unlink (x0 : Option Nat) (x1 : Int32) (x2 : Int32) (x3 : Option Nat) (st : XS) : Option (Int32 × XS) :=
  match x0 with
  | none => none
  | some i1 =>
    match f_D_unlink i1 x1 x2 st with
    | none => none
    | some (.inr e_10, st5) =>
      if e_10 = "java/lang/IllegalStateException" then
        some (1, st5)
      else if e_10 = "java/lang/IllegalArgumentException" then
        some (2, st5)
      else none
    | some (.inl v4, st5) =>
      match x3 with
      | none => none
      | some i6 =>
        if x_in 0 1 then
          some (0, xsJ st5 64 i6 (0 : Int32).toNatClampNeg (v4.toInt64))
        else none
set_option maxRecDepth 100000 in
set_option maxHeartbeats 4000000 in
theorem m_L_unlink (l : Launch) (hfl : l.flags = flags0) {x0 : Option Nat} {x1 : Int32} {x2 : Int32} {x3 : Option Nat} {st : XS} {r : Int32} {st2 : XS} (h : f_L_unlink x0 x1 x2 x3 st = some (r, st2)) : x_M l M_L_unlink rm_L_unlink [xR 0 (x0), xI (x1), xI (x2), xR 64 (x3)] st (.inl (some (xI r))) st2 1 6 := by
  refine x_enter (Nat.le_of_ble_eq_true rfl) ?_
  intro p e s m below meth c D cA g args B C
  have hret := B.2.2.2.2.2.2.2.2.1
  have hmn := B.2.2.2.2.2.2.2.1
  have hex := B.2.2.2.2.2.2.2.2.2.1
  unfold f_L_unlink at h
  refine x_aload_n (pc := 0) C (d_L_unlink 0 rfl) rfl 3 rfl ?_
  refine x_iconst (pc := 1) (v := 0) C (by decide) (d_L_unlink 1 rfl) ?_
  refine x_aload_n (pc := 2) C (d_L_unlink 2 rfl) rfl 0 rfl ?_
  refine x_iload_n (pc := 3) C (d_L_unlink 3 rfl) rfl 1 rfl ?_
  refine x_iload_n (pc := 4) C (d_L_unlink 4 rfl) rfl 2 rfl ?_
  cases c2 : x0 with
  | none => rw [c2] at h; cases h
  | some i1 =>
    rw [c2] at h
    dsimp only at h
    cases c3 : f_D_unlink i1 x1 x2 st with
    | none => rw [c3] at h; cases h
    | some w9 =>
      obtain ⟨w9, st5⟩ := w9
      cases w9 with
      | inr e_10 =>
        rw [c3] at h
        dsimp only at h
        by_cases q15 : e_10 = "java/lang/IllegalStateException"
        · subst q15
          rw [if_pos rfl] at h
          refine x_callVt (mc := 1) (ms := 6) (pc := 5) (bL := [xI (x1), xI (x2)]) (K := [xI (0), xR 64 (x3)]) C cs_L_45 (m_D_unlink l hfl c3 : x_M l _ _ _ _ (.inr "java/lang/IllegalStateException") _ 1 6) (by decide) rfl (Nat.le_of_ble_eq_true rfl) (d_L_unlink 5 rfl) (x_catch (pre := []) (r := (0, 10, 13, 13)) (rest := [(0, 10, 17, 22)]) C hex (Or.inl rfl) (by decide) (by decide) w_331 C.2.2.2.2.2.2.2.2.1.1 (fun a11 => ?_))
          refine x_astore (pc := 13) (L2 := [(4, xA (a11)), (0, xR 0 (some (i1))), (1, xI (x1)), (2, xI (x2)), (3, xR 64 (x3))]) C (d_L_unlink 9 rfl) (by decide) rfl ?_
          refine x_iconst (pc := 15) (v := 1) C (by decide) (d_L_unlink 10 rfl) ?_
          cases h
          exact x_iret (pc := 16) C hret rfl (Nat.le_of_ble_eq_true rfl) (Nat.le_of_ble_eq_true rfl) (d_L_unlink 11 rfl)
        · rw [if_neg q15] at h
          by_cases q16 : e_10 = "java/lang/IllegalArgumentException"
          · subst q16
            rw [if_pos rfl] at h
            refine x_callVt (mc := 1) (ms := 6) (pc := 5) (bL := [xI (x1), xI (x2)]) (K := [xI (0), xR 64 (x3)]) C cs_L_45 (m_D_unlink l hfl c3 : x_M l _ _ _ _ (.inr "java/lang/IllegalArgumentException") _ 1 6) (by decide) rfl (Nat.le_of_ble_eq_true rfl) (d_L_unlink 5 rfl) (x_catch (pre := [(0, 10, 13, 13)]) (r := (0, 10, 17, 22)) (rest := []) C hex (Or.inr ⟨(0, 10, 13, 13), "java/lang/IllegalStateException", rfl, by decide, by decide, w_331, C.2.2.2.2.2.2.2.2.2.2.2.2.2.1 ("java/lang/IllegalArgumentException", "java/lang/IllegalStateException") (by decide)⟩) (by decide) (by decide) w_441 C.2.2.2.2.2.2.2.2.1.2 (fun a12 => ?_))
            refine x_astore (pc := 17) (L2 := [(4, xA (a12)), (0, xR 0 (some (i1))), (1, xI (x1)), (2, xI (x2)), (3, xR 64 (x3))]) C (d_L_unlink 12 rfl) (by decide) rfl ?_
            refine x_iconst (pc := 19) (v := 2) C (by decide) (d_L_unlink 13 rfl) ?_
            cases h
            exact x_iret (pc := 20) C hret rfl (Nat.le_of_ble_eq_true rfl) (Nat.le_of_ble_eq_true rfl) (d_L_unlink 14 rfl)
          · rw [if_neg q16] at h
            cases h
      | inl v4 =>
        rw [c3] at h
        dsimp only at h
        refine x_callV (mc := 0) (ms := 0) (pc := 5) (bL := [xI (x1), xI (x2)]) (K := [xI (0), xR 64 (x3)]) C cs_L_45 (m_D_unlink l hfl c3 : x_M l _ _ _ _ (.inl (some (xI v4))) _ 0 0) (by decide) rfl (Nat.le_of_ble_eq_true rfl) (d_L_unlink 5 rfl) ?_
        refine x_i2l (pc := 8) C (d_L_unlink 6 rfl) ?_
        cases c7 : x3 with
        | none => rw [c7] at h; cases h
        | some i6 =>
          rw [c7] at h
          dsimp only at h
          by_cases b8 : x_in 0 1
          · rw [if_pos b8] at h
            refine x_last (pc := 9) C ar_64 b8 (d_L_unlink 7 rfl) ?_
            refine x_goto (pc := 10) (tgt := 21) C (d_L_unlink 8 rfl) (by decide) ?_
            refine x_iconst (pc := 21) (v := 0) C (by decide) (d_L_unlink 15 rfl) ?_
            cases h
            exact x_iret (pc := 22) C hret rfl (Nat.zero_le _) (Nat.zero_le _) (d_L_unlink 16 rfl)
          · rw [if_neg b8] at h; cases h
def f_L_rename (x0 : Option Nat) (x1 : Int32) (x2 : Int32) (x3 : Int32) (x4 : Option Nat) (st : XS) : Option (Int32 × XS) :=
  match x0 with
  | none => none
  | some i1 =>
    match f_D_rename i1 x1 x2 x3 st with
    | none => none
    | some (.inr e_10, st5) =>
      if e_10 = "java/lang/IllegalStateException" then
        some (1, st5)
      else if e_10 = "java/lang/IllegalArgumentException" then
        some (2, st5)
      else none
    | some (.inl v4, st5) =>
      match x4 with
      | none => none
      | some i6 =>
        if x_in 0 1 then
          some (0, xsJ st5 64 i6 (0 : Int32).toNatClampNeg (v4.toInt64))
        else none
set_option maxRecDepth 100000 in
set_option maxHeartbeats 4000000 in
theorem m_L_rename (l : Launch) (hfl : l.flags = flags0) {x0 : Option Nat} {x1 : Int32} {x2 : Int32} {x3 : Int32} {x4 : Option Nat} {st : XS} {r : Int32} {st2 : XS} (h : f_L_rename x0 x1 x2 x3 x4 st = some (r, st2)) : x_M l M_L_rename rm_L_rename [xR 0 (x0), xI (x1), xI (x2), xI (x3), xR 64 (x4)] st (.inl (some (xI r))) st2 1 6 := by
  refine x_enter (Nat.le_of_ble_eq_true rfl) ?_
  intro p e s m below meth c D cA g args B C
  have hret := B.2.2.2.2.2.2.2.2.1
  have hmn := B.2.2.2.2.2.2.2.1
  have hex := B.2.2.2.2.2.2.2.2.2.1
  unfold f_L_rename at h
  refine x_aload (pc := 0) C (d_L_rename 0 rfl) 4 rfl ?_
  refine x_iconst (pc := 2) (v := 0) C (by decide) (d_L_rename 1 rfl) ?_
  refine x_aload_n (pc := 3) C (d_L_rename 2 rfl) rfl 0 rfl ?_
  refine x_iload_n (pc := 4) C (d_L_rename 3 rfl) rfl 1 rfl ?_
  refine x_iload_n (pc := 5) C (d_L_rename 4 rfl) rfl 2 rfl ?_
  refine x_iload_n (pc := 6) C (d_L_rename 5 rfl) rfl 3 rfl ?_
  cases c2 : x0 with
  | none => rw [c2] at h; cases h
  | some i1 =>
    rw [c2] at h
    dsimp only at h
    cases c3 : f_D_rename i1 x1 x2 x3 st with
    | none => rw [c3] at h; cases h
    | some w9 =>
      obtain ⟨w9, st5⟩ := w9
      cases w9 with
      | inr e_10 =>
        rw [c3] at h
        dsimp only at h
        by_cases q15 : e_10 = "java/lang/IllegalStateException"
        · subst q15
          rw [if_pos rfl] at h
          refine x_callVt (mc := 1) (ms := 6) (pc := 7) (bL := [xI (x1), xI (x2), xI (x3)]) (K := [xI (0), xR 64 (x4)]) C cs_L_48 (m_D_rename l hfl c3 : x_M l _ _ _ _ (.inr "java/lang/IllegalStateException") _ 1 6) (by decide) rfl (Nat.le_of_ble_eq_true rfl) (d_L_rename 6 rfl) (x_catch (pre := []) (r := (0, 12, 15, 13)) (rest := [(0, 12, 19, 22)]) C hex (Or.inl rfl) (by decide) (by decide) w_331 C.2.2.2.2.2.2.2.2.1.1 (fun a11 => ?_))
          refine x_astore (pc := 15) (L2 := [(5, xA (a11)), (0, xR 0 (some (i1))), (1, xI (x1)), (2, xI (x2)), (3, xI (x3)), (4, xR 64 (x4))]) C (d_L_rename 10 rfl) (by decide) rfl ?_
          refine x_iconst (pc := 17) (v := 1) C (by decide) (d_L_rename 11 rfl) ?_
          cases h
          exact x_iret (pc := 18) C hret rfl (Nat.le_of_ble_eq_true rfl) (Nat.le_of_ble_eq_true rfl) (d_L_rename 12 rfl)
        · rw [if_neg q15] at h
          by_cases q16 : e_10 = "java/lang/IllegalArgumentException"
          · subst q16
            rw [if_pos rfl] at h
            refine x_callVt (mc := 1) (ms := 6) (pc := 7) (bL := [xI (x1), xI (x2), xI (x3)]) (K := [xI (0), xR 64 (x4)]) C cs_L_48 (m_D_rename l hfl c3 : x_M l _ _ _ _ (.inr "java/lang/IllegalArgumentException") _ 1 6) (by decide) rfl (Nat.le_of_ble_eq_true rfl) (d_L_rename 6 rfl) (x_catch (pre := [(0, 12, 15, 13)]) (r := (0, 12, 19, 22)) (rest := []) C hex (Or.inr ⟨(0, 12, 15, 13), "java/lang/IllegalStateException", rfl, by decide, by decide, w_331, C.2.2.2.2.2.2.2.2.2.2.2.2.2.1 ("java/lang/IllegalArgumentException", "java/lang/IllegalStateException") (by decide)⟩) (by decide) (by decide) w_441 C.2.2.2.2.2.2.2.2.1.2 (fun a12 => ?_))
            refine x_astore (pc := 19) (L2 := [(5, xA (a12)), (0, xR 0 (some (i1))), (1, xI (x1)), (2, xI (x2)), (3, xI (x3)), (4, xR 64 (x4))]) C (d_L_rename 13 rfl) (by decide) rfl ?_
            refine x_iconst (pc := 21) (v := 2) C (by decide) (d_L_rename 14 rfl) ?_
            cases h
            exact x_iret (pc := 22) C hret rfl (Nat.le_of_ble_eq_true rfl) (Nat.le_of_ble_eq_true rfl) (d_L_rename 15 rfl)
          · rw [if_neg q16] at h
            cases h
      | inl v4 =>
        rw [c3] at h
        dsimp only at h
        refine x_callV (mc := 0) (ms := 0) (pc := 7) (bL := [xI (x1), xI (x2), xI (x3)]) (K := [xI (0), xR 64 (x4)]) C cs_L_48 (m_D_rename l hfl c3 : x_M l _ _ _ _ (.inl (some (xI v4))) _ 0 0) (by decide) rfl (Nat.le_of_ble_eq_true rfl) (d_L_rename 6 rfl) ?_
        refine x_i2l (pc := 10) C (d_L_rename 7 rfl) ?_
        cases c7 : x4 with
        | none => rw [c7] at h; cases h
        | some i6 =>
          rw [c7] at h
          dsimp only at h
          by_cases b8 : x_in 0 1
          · rw [if_pos b8] at h
            refine x_last (pc := 11) C ar_64 b8 (d_L_rename 8 rfl) ?_
            refine x_goto (pc := 12) (tgt := 23) C (d_L_rename 9 rfl) (by decide) ?_
            refine x_iconst (pc := 23) (v := 0) C (by decide) (d_L_rename 16 rfl) ?_
            cases h
            exact x_iret (pc := 24) C hret rfl (Nat.zero_le _) (Nat.zero_le _) (d_L_rename 17 rfl)
          · rw [if_neg b8] at h; cases h
def f_L_type (x0 : Option Nat) (x1 : Int32) (x2 : Option Nat) (st : XS) : Option (Int32 × XS) :=
  match x0 with
  | none => none
  | some i1 =>
    match f_D_type i1 x1 st with
    | none => none
    | some (.inr e_10, st5) =>
      if e_10 = "java/lang/IllegalArgumentException" then
        some (1, st5)
      else none
    | some (.inl v4, st5) =>
      match x2 with
      | none => none
      | some i6 =>
        if x_in 0 1 then
          some (0, xsJ st5 64 i6 (0 : Int32).toNatClampNeg (v4.toInt64))
        else none
set_option maxRecDepth 100000 in
set_option maxHeartbeats 4000000 in
theorem m_L_type (l : Launch) (hfl : l.flags = flags0) {x0 : Option Nat} {x1 : Int32} {x2 : Option Nat} {st : XS} {r : Int32} {st2 : XS} (h : f_L_type x0 x1 x2 st = some (r, st2)) : x_M l M_L_type rm_L_type [xR 0 (x0), xI (x1), xR 64 (x2)] st (.inl (some (xI r))) st2 1 6 := by
  refine x_enter (Nat.le_of_ble_eq_true rfl) ?_
  intro p e s m below meth c D cA g args B C
  have hret := B.2.2.2.2.2.2.2.2.1
  have hmn := B.2.2.2.2.2.2.2.1
  have hex := B.2.2.2.2.2.2.2.2.2.1
  unfold f_L_type at h
  refine x_aload_n (pc := 0) C (d_L_type 0 rfl) rfl 2 rfl ?_
  refine x_iconst (pc := 1) (v := 0) C (by decide) (d_L_type 1 rfl) ?_
  refine x_aload_n (pc := 2) C (d_L_type 2 rfl) rfl 0 rfl ?_
  refine x_iload_n (pc := 3) C (d_L_type 3 rfl) rfl 1 rfl ?_
  cases c2 : x0 with
  | none => rw [c2] at h; cases h
  | some i1 =>
    rw [c2] at h
    dsimp only at h
    cases c3 : f_D_type i1 x1 st with
    | none => rw [c3] at h; cases h
    | some w9 =>
      obtain ⟨w9, st5⟩ := w9
      cases w9 with
      | inr e_10 =>
        rw [c3] at h
        dsimp only at h
        by_cases q13 : e_10 = "java/lang/IllegalArgumentException"
        · subst q13
          rw [if_pos rfl] at h
          refine x_callVt (mc := 1) (ms := 6) (pc := 4) (bL := [xI (x1)]) (K := [xI (0), xR 64 (x2)]) C cs_L_51 (m_D_type l hfl c3 : x_M l _ _ _ _ (.inr "java/lang/IllegalArgumentException") _ 1 6) (by decide) rfl (Nat.le_of_ble_eq_true rfl) (d_L_type 4 rfl) (x_catch (pre := []) (r := (0, 9, 12, 22)) (rest := []) C hex (Or.inl rfl) (by decide) (by decide) w_441 C.2.2.2.2.2.2.2.2.1.2 (fun a11 => ?_))
          refine x_astore_n (pc := 12) (L2 := [(3, xA (a11)), (0, xR 0 (some (i1))), (1, xI (x1)), (2, xR 64 (x2))]) C (d_L_type 8 rfl) rfl (by decide) rfl ?_
          refine x_iconst (pc := 13) (v := 1) C (by decide) (d_L_type 9 rfl) ?_
          cases h
          exact x_iret (pc := 14) C hret rfl (Nat.le_of_ble_eq_true rfl) (Nat.le_of_ble_eq_true rfl) (d_L_type 10 rfl)
        · rw [if_neg q13] at h
          cases h
      | inl v4 =>
        rw [c3] at h
        dsimp only at h
        refine x_callV (mc := 0) (ms := 0) (pc := 4) (bL := [xI (x1)]) (K := [xI (0), xR 64 (x2)]) C cs_L_51 (m_D_type l hfl c3 : x_M l _ _ _ _ (.inl (some (xI v4))) _ 0 0) (by decide) rfl (Nat.le_of_ble_eq_true rfl) (d_L_type 4 rfl) ?_
        refine x_i2l (pc := 7) C (d_L_type 5 rfl) ?_
        cases c7 : x2 with
        | none => rw [c7] at h; cases h
        | some i6 =>
          rw [c7] at h
          dsimp only at h
          by_cases b8 : x_in 0 1
          · rw [if_pos b8] at h
            refine x_last (pc := 8) C ar_64 b8 (d_L_type 6 rfl) ?_
            refine x_goto (pc := 9) (tgt := 15) C (d_L_type 7 rfl) (by decide) ?_
            refine x_iconst (pc := 15) (v := 0) C (by decide) (d_L_type 11 rfl) ?_
            cases h
            exact x_iret (pc := 16) C hret rfl (Nat.zero_le _) (Nat.zero_le _) (d_L_type 12 rfl)
          · rw [if_neg b8] at h; cases h
