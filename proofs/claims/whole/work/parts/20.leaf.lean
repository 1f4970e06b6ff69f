/-! methods as functions, by program (wip/gen) -/
def f_P_beReady (x0 : Nat) (st : XS) : Option (Unit × XS) :=
  some ((), xsI (xsI (xsI st 1 x0 1 1) 1 x0 2 ((-1))) 1 x0 3 0)
set_option maxRecDepth 100000 in
set_option maxHeartbeats 4000000 in
theorem m_P_beReady (l : Launch) {x0 : Nat} {st : XS} {r : Unit} {st2 : XS} (h : f_P_beReady x0 st = some (r, st2)) : x_M l M_P_beReady rm_P_beReady [xR 1 (some (x0))] st (.inl (none)) st2 0 0 := by
  refine x_enter (Nat.le_of_ble_eq_true rfl) ?_
  intro p e s m below meth c D cA g args B C
  have hret := B.2.2.2.2.2.2.2.2.1
  have hmn := B.2.2.2.2.2.2.2.1
  have hex := B.2.2.2.2.2.2.2.2.2.1
  unfold f_P_beReady at h
  refine x_aload_n (pc := 0) C (d_P_beReady 0 rfl) rfl 0 rfl ?_
  refine x_iconst (pc := 1) (v := 1) C (by decide) (d_P_beReady 1 rfl) ?_
  refine x_putI (pc := 2) C fl_P_17 (pf_P_17 _) rfl ty_1_1 (d_P_beReady 2 rfl) ?_
  refine x_aload_n (pc := 5) C (d_P_beReady 3 rfl) rfl 0 rfl ?_
  refine x_iconst (pc := 6) (v := (-1)) C (by decide) (d_P_beReady 4 rfl) ?_
  refine x_putI (pc := 7) C fl_P_21 (pf_P_21 _) rfl ty_1_2 (d_P_beReady 5 rfl) ?_
  refine x_aload_n (pc := 10) C (d_P_beReady 6 rfl) rfl 0 rfl ?_
  refine x_iconst (pc := 11) (v := 0) C (by decide) (d_P_beReady 7 rfl) ?_
  refine x_putI (pc := 12) C fl_P_24 (pf_P_24 _) rfl ty_1_3 (d_P_beReady 8 rfl) ?_
  cases h
  exact x_vret (pc := 15) C hret (Nat.zero_le _) (Nat.zero_le _) (d_P_beReady 9 rfl)
def f_P_begin (x0 : Nat) (st : XS) : Option (Unit × XS) :=
  match f_P_beReady x0 st with
  | none => none
  | some (_, st3) =>
    some ((), xsJ st3 1 x0 4 0)
set_option maxRecDepth 100000 in
set_option maxHeartbeats 4000000 in
theorem m_P_begin (l : Launch) {x0 : Nat} {st : XS} {r : Unit} {st2 : XS} (h : f_P_begin x0 st = some (r, st2)) : x_M l M_P_begin rm_P_begin [xR 1 (some (x0))] st (.inl (none)) st2 0 0 := by
  refine x_enter (Nat.le_of_ble_eq_true rfl) ?_
  intro p e s m below meth c D cA g args B C
  have hret := B.2.2.2.2.2.2.2.2.1
  have hmn := B.2.2.2.2.2.2.2.1
  have hex := B.2.2.2.2.2.2.2.2.2.1
  unfold f_P_begin at h
  refine x_aload_n (pc := 0) C (d_P_begin 0 rfl) rfl 0 rfl ?_
  cases c1 : f_P_beReady x0 st with
  | none => rw [c1] at h; cases h
  | some w4 =>
    obtain ⟨v2, st3⟩ := w4
    rw [c1] at h
    dsimp only at h
    refine x_callV (mc := 0) (ms := 0) (pc := 1) (bL := []) (K := []) C cs_P_31 (m_P_beReady l c1 : x_M l _ _ _ _ (.inl none) _ 0 0) (by decide) rfl (Nat.le_of_ble_eq_true rfl) (d_P_begin 1 rfl) ?_
    refine x_aload_n (pc := 4) C (d_P_begin 2 rfl) rfl 0 rfl ?_
    refine x_lconst (pc := 5) (v := 0) C (by decide) (d_P_begin 3 rfl) ?_
    refine x_putJ (pc := 6) C fl_P_27 (pf_P_27 _) rfl ty_1_4 (d_P_begin 4 rfl) ?_
    cases h
    exact x_vret (pc := 9) C hret (Nat.zero_le _) (Nat.zero_le _) (d_P_begin 5 rfl)
def f_I_addEnd (x0 : Nat) (x1 : Int32) (st : XS) : Option (Unit × XS) :=
  if x1 = 1 then
    some ((), xsI st 3 x0 1 ((st.1 3 x0 1) + (1 : Int32)))
  else
    some ((), xsI st 3 x0 2 ((st.1 3 x0 2) + (1 : Int32)))
set_option maxRecDepth 100000 in
set_option maxHeartbeats 4000000 in
theorem m_I_addEnd (l : Launch) {x0 : Nat} {x1 : Int32} {st : XS} {r : Unit} {st2 : XS} (h : f_I_addEnd x0 x1 st = some (r, st2)) : x_M l M_I_addEnd rm_I_addEnd [xR 3 (some (x0)), xI (x1)] st (.inl (none)) st2 0 0 := by
  refine x_enter (Nat.le_of_ble_eq_true rfl) ?_
  intro p e s m below meth c D cA g args B C
  have hret := B.2.2.2.2.2.2.2.2.1
  have hmn := B.2.2.2.2.2.2.2.1
  have hex := B.2.2.2.2.2.2.2.2.2.1
  unfold f_I_addEnd at h
  refine x_iload_n (pc := 0) C (d_I_addEnd 0 rfl) rfl 1 rfl ?_
  refine x_iconst (pc := 1) (v := 1) C (by decide) (d_I_addEnd 1 rfl) ?_
  refine x_icmp_ne (pc := 2) (tgt := 18) C (d_I_addEnd 2 rfl) (by decide) (fun c1 => ?_) (fun c1 => ?_)
  · rw [if_neg c1] at h
    refine x_aload_n (pc := 18) C (d_I_addEnd 10 rfl) rfl 0 rfl ?_
    refine x_dup (pc := 19) C rfl (d_I_addEnd 11 rfl) ?_
    refine x_getI (pc := 20) C fl_I_22 rfl (d_I_addEnd 12 rfl) ?_
    refine x_iconst (pc := 23) (v := 1) C (by decide) (d_I_addEnd 13 rfl) ?_
    refine x_iadd (pc := 24) C (d_I_addEnd 14 rfl) ?_
    refine x_putI (pc := 25) C fl_I_22 (pf_I_22 _) rfl ty_3_2 (d_I_addEnd 15 rfl) ?_
    cases h
    exact x_vret (pc := 28) C hret (Nat.zero_le _) (Nat.zero_le _) (d_I_addEnd 16 rfl)
  · rw [if_pos c1] at h
    refine x_aload_n (pc := 5) C (d_I_addEnd 3 rfl) rfl 0 rfl ?_
    refine x_dup (pc := 6) C rfl (d_I_addEnd 4 rfl) ?_
    refine x_getI (pc := 7) C fl_I_18 rfl (d_I_addEnd 5 rfl) ?_
    refine x_iconst (pc := 10) (v := 1) C (by decide) (d_I_addEnd 6 rfl) ?_
    refine x_iadd (pc := 11) C (d_I_addEnd 7 rfl) ?_
    refine x_putI (pc := 12) C fl_I_18 (pf_I_18 _) rfl ty_3_1 (d_I_addEnd 8 rfl) ?_
    refine x_goto (pc := 15) (tgt := 28) C (d_I_addEnd 9 rfl) (by decide) ?_
    cases h
    exact x_vret (pc := 28) C hret (Nat.zero_le _) (Nat.zero_le _) (d_I_addEnd 16 rfl)
def f_O_begin (x0 : Nat) (x1 : Option Nat) (x2 : Option Nat) (x3 : Int32) (st : XS) : Option (Unit × XS) :=
  match x1 with
  | none =>
    match x2 with
    | none =>
      some ((), xsI (xsI (xsR (xsR st 2 x0 0 (none)) 2 x0 1 (none)) 2 x0 2 0) 2 x0 3 x3)
    | some i4 =>
      some ((), xsI (xsI (xsI (xsR (xsR st 2 x0 0 (none)) 2 x0 1 ((some i4))) 2 x0 2 0) 2 x0 3 x3) 4 i4 3 (((xsI (xsI (xsR (xsR st 2 x0 0 (none)) 2 x0 1 ((some i4))) 2 x0 2 0) 2 x0 3 x3).1 4 i4 3) + (1 : Int32)))
  | some i2 =>
    match f_I_addEnd i2 x3 (xsI (xsI (xsR (xsR st 2 x0 0 ((some i2))) 2 x0 1 (x2)) 2 x0 2 0) 2 x0 3 x3) with
    | none => none
    | some (_, st7) =>
      match x2 with
      | none =>
        some ((), st7)
      | some i9 =>
        some ((), xsI st7 4 i9 3 ((st7.1 4 i9 3) + (1 : Int32)))
set_option maxRecDepth 100000 in
set_option maxHeartbeats 4000000 in
theorem m_O_begin (l : Launch) {x0 : Nat} {x1 : Option Nat} {x2 : Option Nat} {x3 : Int32} {st : XS} {r : Unit} {st2 : XS} (h : f_O_begin x0 x1 x2 x3 st = some (r, st2)) : x_M l M_O_begin rm_O_begin [xR 2 (some (x0)), xR 3 (x1), xR 4 (x2), xI (x3)] st (.inl (none)) st2 0 0 := by
  refine x_enter (Nat.le_of_ble_eq_true rfl) ?_
  intro p e s m below meth c D cA g args B C
  have hret := B.2.2.2.2.2.2.2.2.1
  have hmn := B.2.2.2.2.2.2.2.1
  have hex := B.2.2.2.2.2.2.2.2.2.1
  unfold f_O_begin at h
  refine x_aload_n (pc := 0) C (d_O_begin 0 rfl) rfl 0 rfl ?_
  refine x_aload_n (pc := 1) C (d_O_begin 1 rfl) rfl 1 rfl ?_
  refine x_putR (pc := 2) C fl_O_7 (pf_O_7 _) rfl (Or.inr rfl) ty_2_0 (d_O_begin 2 rfl) ?_
  refine x_aload_n (pc := 5) C (d_O_begin 3 rfl) rfl 0 rfl ?_
  refine x_aload_n (pc := 6) C (d_O_begin 4 rfl) rfl 2 rfl ?_
  refine x_putR (pc := 7) C fl_O_13 (pf_O_13 _) rfl (Or.inr rfl) ty_2_1 (d_O_begin 5 rfl) ?_
  refine x_aload_n (pc := 10) C (d_O_begin 6 rfl) rfl 0 rfl ?_
  refine x_iconst (pc := 11) (v := 0) C (by decide) (d_O_begin 7 rfl) ?_
  refine x_putI (pc := 12) C fl_O_17 (pf_O_17 _) rfl ty_2_2 (d_O_begin 8 rfl) ?_
  refine x_aload_n (pc := 15) C (d_O_begin 9 rfl) rfl 0 rfl ?_
  refine x_iload_n (pc := 16) C (d_O_begin 10 rfl) rfl 3 rfl ?_
  refine x_putI (pc := 17) C fl_O_21 (pf_O_21 _) rfl ty_2_3 (d_O_begin 11 rfl) ?_
  refine x_aload_n (pc := 20) C (d_O_begin 12 rfl) rfl 1 rfl ?_
  refine x_ifnull (pc := 21) (tgt := 29) C (d_O_begin 13 rfl) (by decide) (fun c1 => ?_) (fun i2 c1 => ?_)
  · rw [c1] at h; try rw [c1]
    dsimp only at h
    refine x_aload_n (pc := 29) C (d_O_begin 17 rfl) rfl 2 rfl ?_
    refine x_ifnull (pc := 30) (tgt := 43) C (d_O_begin 18 rfl) (by decide) (fun c3 => ?_) (fun i4 c3 => ?_)
    · rw [c3] at h; try rw [c3]
      dsimp only at h
      cases h
      exact x_vret (pc := 43) C hret (Nat.zero_le _) (Nat.zero_le _) (d_O_begin 25 rfl)
    · rw [c3] at h; try rw [c3]
      dsimp only at h
      refine x_aload_n (pc := 33) C (d_O_begin 19 rfl) rfl 2 rfl ?_
      refine x_dup (pc := 34) C rfl (d_O_begin 20 rfl) ?_
      refine x_getI (pc := 35) C fl_O_33 rfl (d_O_begin 21 rfl) ?_
      refine x_iconst (pc := 38) (v := 1) C (by decide) (d_O_begin 22 rfl) ?_
      refine x_iadd (pc := 39) C (d_O_begin 23 rfl) ?_
      refine x_putI (pc := 40) C fl_O_33 (pf_O_33 _) rfl ty_4_3 (d_O_begin 24 rfl) ?_
      cases h
      exact x_vret (pc := 43) C hret (Nat.zero_le _) (Nat.zero_le _) (d_O_begin 25 rfl)
  · rw [c1] at h; try rw [c1]
    dsimp only at h
    refine x_aload_n (pc := 24) C (d_O_begin 14 rfl) rfl 1 rfl ?_
    refine x_iload_n (pc := 25) C (d_O_begin 15 rfl) rfl 3 rfl ?_
    cases c5 : f_I_addEnd i2 x3 (xsI (xsI (xsR (xsR st 2 x0 0 ((some i2))) 2 x0 1 (x2)) 2 x0 2 0) 2 x0 3 x3) with
    | none => rw [c5] at h; cases h
    | some w10 =>
      obtain ⟨v6, st7⟩ := w10
      rw [c5] at h
      dsimp only at h
      refine x_callV (mc := 0) (ms := 0) (pc := 26) (bL := [xI (x3)]) (K := []) C cs_O_27 (m_I_addEnd l c5 : x_M l _ _ _ _ (.inl none) _ 0 0) (by decide) rfl (Nat.le_of_ble_eq_true rfl) (d_O_begin 16 rfl) ?_
      refine x_aload_n (pc := 29) C (d_O_begin 17 rfl) rfl 2 rfl ?_
      refine x_ifnull (pc := 30) (tgt := 43) C (d_O_begin 18 rfl) (by decide) (fun c8 => ?_) (fun i9 c8 => ?_)
      · rw [c8] at h; try rw [c8]
        dsimp only at h
        cases h
        exact x_vret (pc := 43) C hret (Nat.zero_le _) (Nat.zero_le _) (d_O_begin 25 rfl)
      · rw [c8] at h; try rw [c8]
        dsimp only at h
        refine x_aload_n (pc := 33) C (d_O_begin 19 rfl) rfl 2 rfl ?_
        refine x_dup (pc := 34) C rfl (d_O_begin 20 rfl) ?_
        refine x_getI (pc := 35) C fl_O_33 rfl (d_O_begin 21 rfl) ?_
        refine x_iconst (pc := 38) (v := 1) C (by decide) (d_O_begin 22 rfl) ?_
        refine x_iadd (pc := 39) C (d_O_begin 23 rfl) ?_
        refine x_putI (pc := 40) C fl_O_33 (pf_O_33 _) rfl ty_4_3 (d_O_begin 24 rfl) ?_
        cases h
        exact x_vret (pc := 43) C hret (Nat.zero_le _) (Nat.zero_le _) (d_O_begin 25 rfl)
def f_P_openingAt (x0 : Nat) (x1 : Int32) (st : XS) : Option (Option Nat) :=
  if x1 < 0 then
    some (none)
  else
    if 8 ≤ x1 then
      some (none)
    else
      match st.2.2.1 1 x0 0 with
      | none => none
      | some i3 =>
        if x_in x1 8 then
          some (st.2.2.1 10 i3 x1.toNatClampNeg)
        else none
set_option maxRecDepth 100000 in
set_option maxHeartbeats 4000000 in
theorem m_P_openingAt (l : Launch) {x0 : Nat} {x1 : Int32} {st : XS} {r : Option Nat} (h : f_P_openingAt x0 x1 st = some r) : x_M l M_P_openingAt rm_P_openingAt [xR 1 (some (x0)), xI (x1)] st (.inl (some (xR 2 r))) st 0 0 := by
  refine x_enter (Nat.le_of_ble_eq_true rfl) ?_
  intro p e s m below meth c D cA g args B C
  have hret := B.2.2.2.2.2.2.2.2.1
  have hmn := B.2.2.2.2.2.2.2.1
  have hex := B.2.2.2.2.2.2.2.2.2.1
  unfold f_P_openingAt at h
  refine x_iload_n (pc := 0) C (d_P_openingAt 0 rfl) rfl 1 rfl ?_
  refine x_if_lt (pc := 1) (tgt := 19) C (d_P_openingAt 1 rfl) (by decide) (fun c1 => ?_) (fun c1 => ?_)
  · rw [if_pos c1] at h
    refine x_nullq (pc := 19) (q := 2) C (d_P_openingAt 10 rfl) ?_
    cases h
    exact x_aret (pc := 20) C hret (Or.inl ⟨_, rfl⟩) (Nat.zero_le _) (Nat.zero_le _) (d_P_openingAt 11 rfl)
  · rw [if_neg c1] at h
    refine x_iload_n (pc := 4) C (d_P_openingAt 2 rfl) rfl 1 rfl ?_
    refine x_bipush (pc := 5) (v := 8) C (by decide) (d_P_openingAt 3 rfl) ?_
    refine x_icmp_ge (pc := 7) (tgt := 19) C (d_P_openingAt 4 rfl) (by decide) (fun c2 => ?_) (fun c2 => ?_)
    · rw [if_pos c2] at h
      refine x_nullq (pc := 19) (q := 2) C (d_P_openingAt 10 rfl) ?_
      cases h
      exact x_aret (pc := 20) C hret (Or.inl ⟨_, rfl⟩) (Nat.zero_le _) (Nat.zero_le _) (d_P_openingAt 11 rfl)
    · rw [if_neg c2] at h
      refine x_aload_n (pc := 10) C (d_P_openingAt 5 rfl) rfl 0 rfl ?_
      refine x_getR (pc := 11) (t := 10) C fl_P_11 rfl rfl (d_P_openingAt 6 rfl) ?_
      refine x_iload_n (pc := 14) C (d_P_openingAt 7 rfl) rfl 1 rfl ?_
      cases c4 : st.2.2.1 1 x0 0 with
      | none => rw [c4] at h; cases h
      | some i3 =>
        rw [c4] at h
        dsimp only at h
        by_cases b5 : x_in x1 8
        · rw [if_pos b5] at h
          refine x_aald (pc := 15) C ar_10 b5 (d_P_openingAt 8 rfl) ?_
          refine x_goto (pc := 16) (tgt := 20) C (d_P_openingAt 9 rfl) (by decide) ?_
          cases h
          exact x_aret (pc := 20) C hret (Or.inl ⟨_, rfl⟩) (Nat.zero_le _) (Nat.zero_le _) (d_P_openingAt 11 rfl)
        · rw [if_neg b5] at h; cases h
def f_I_isThere (x0 : Nat) (st : XS) : Option Int32 :=
  if ((st.1 3 x0 1) + (st.1 3 x0 2)) ≤ 0 then
    some (0)
  else
    some (1)
set_option maxRecDepth 100000 in
set_option maxHeartbeats 4000000 in
theorem m_I_isThere (l : Launch) {x0 : Nat} {st : XS} {r : Int32} (h : f_I_isThere x0 st = some r) : x_M l M_I_isThere rm_I_isThere [xR 3 (some (x0))] st (.inl (some (xI r))) st 0 0 := by
  refine x_enter (Nat.le_of_ble_eq_true rfl) ?_
  intro p e s m below meth c D cA g args B C
  have hret := B.2.2.2.2.2.2.2.2.1
  have hmn := B.2.2.2.2.2.2.2.1
  have hex := B.2.2.2.2.2.2.2.2.2.1
  unfold f_I_isThere at h
  refine x_aload_n (pc := 0) C (d_I_isThere 0 rfl) rfl 0 rfl ?_
  refine x_getI (pc := 1) C fl_I_18 rfl (d_I_isThere 1 rfl) ?_
  refine x_aload_n (pc := 4) C (d_I_isThere 2 rfl) rfl 0 rfl ?_
  refine x_getI (pc := 5) C fl_I_22 rfl (d_I_isThere 3 rfl) ?_
  refine x_iadd (pc := 8) C (d_I_isThere 4 rfl) ?_
  refine x_if_le (pc := 9) (tgt := 16) C (d_I_isThere 5 rfl) (by decide) (fun c1 => ?_) (fun c1 => ?_)
  · rw [if_pos c1] at h
    refine x_iconst (pc := 16) (v := 0) C (by decide) (d_I_isThere 8 rfl) ?_
    cases h
    exact x_iret (pc := 17) C hret rfl (Nat.zero_le _) (Nat.zero_le _) (d_I_isThere 9 rfl)
  · rw [if_neg c1] at h
    refine x_iconst (pc := 12) (v := 1) C (by decide) (d_I_isThere 6 rfl) ?_
    refine x_goto (pc := 13) (tgt := 17) C (d_I_isThere 7 rfl) (by decide) ?_
    cases h
    exact x_iret (pc := 17) C hret rfl (Nat.zero_le _) (Nat.zero_le _) (d_I_isThere 9 rfl)
def f_B_empty (x0 : Nat) (st : XS) : Option (Unit × XS) :=
  some ((), xsI (xsI st 5 x0 1 0) 5 x0 2 0)
set_option maxRecDepth 100000 in
set_option maxHeartbeats 4000000 in
theorem m_B_empty (l : Launch) {x0 : Nat} {st : XS} {r : Unit} {st2 : XS} (h : f_B_empty x0 st = some (r, st2)) : x_M l M_B_empty rm_B_empty [xR 5 (some (x0))] st (.inl (none)) st2 0 0 := by
  refine x_enter (Nat.le_of_ble_eq_true rfl) ?_
  intro p e s m below meth c D cA g args B C
  have hret := B.2.2.2.2.2.2.2.2.1
  have hmn := B.2.2.2.2.2.2.2.1
  have hex := B.2.2.2.2.2.2.2.2.2.1
  unfold f_B_empty at h
  refine x_aload_n (pc := 0) C (d_B_empty 0 rfl) rfl 0 rfl ?_
  refine x_iconst (pc := 1) (v := 0) C (by decide) (d_B_empty 1 rfl) ?_
  refine x_putI (pc := 2) C fl_B_13 (pf_B_13 _) rfl ty_5_1 (d_B_empty 2 rfl) ?_
  refine x_aload_n (pc := 5) C (d_B_empty 3 rfl) rfl 0 rfl ?_
  refine x_iconst (pc := 6) (v := 0) C (by decide) (d_B_empty 4 rfl) ?_
  refine x_putI (pc := 7) C fl_B_17 (pf_B_17 _) rfl ty_5_2 (d_B_empty 5 rfl) ?_
  cases h
  exact x_vret (pc := 10) C hret (Nat.zero_le _) (Nat.zero_le _) (d_B_empty 6 rfl)
def f_I_dropEnd (x0 : Nat) (x1 : Int32) (st : XS) : Option (Unit × XS) :=
  if x1 = 1 then
    match f_I_isThere x0 (xsI st 3 x0 1 ((st.1 3 x0 1) - (1 : Int32))) with
    | none => none
    | some v13 =>
      if v13 = 0 then
        match (xsI st 3 x0 1 ((st.1 3 x0 1) - (1 : Int32))).2.2.1 3 x0 0 with
        | none => none
        | some i15 =>
          match f_B_empty i15 (xsI st 3 x0 1 ((st.1 3 x0 1) - (1 : Int32))) with
          | none => none
          | some (_, st19) =>
            some ((), st19)
      else
        some ((), xsI st 3 x0 1 ((st.1 3 x0 1) - (1 : Int32)))
  else
    match f_I_isThere x0 (xsI st 3 x0 2 ((st.1 3 x0 2) - (1 : Int32))) with
    | none => none
    | some v3 =>
      if v3 = 0 then
        match (xsI st 3 x0 2 ((st.1 3 x0 2) - (1 : Int32))).2.2.1 3 x0 0 with
        | none => none
        | some i5 =>
          match f_B_empty i5 (xsI st 3 x0 2 ((st.1 3 x0 2) - (1 : Int32))) with
          | none => none
          | some (_, st9) =>
            some ((), st9)
      else
        some ((), xsI st 3 x0 2 ((st.1 3 x0 2) - (1 : Int32)))
set_option maxRecDepth 100000 in
set_option maxHeartbeats 4000000 in
theorem m_I_dropEnd (l : Launch) {x0 : Nat} {x1 : Int32} {st : XS} {r : Unit} {st2 : XS} (h : f_I_dropEnd x0 x1 st = some (r, st2)) : x_M l M_I_dropEnd rm_I_dropEnd [xR 3 (some (x0)), xI (x1)] st (.inl (none)) st2 0 0 := by
  refine x_enter (Nat.le_of_ble_eq_true rfl) ?_
  intro p e s m below meth c D cA g args B C
  have hret := B.2.2.2.2.2.2.2.2.1
  have hmn := B.2.2.2.2.2.2.2.1
  have hex := B.2.2.2.2.2.2.2.2.2.1
  unfold f_I_dropEnd at h
  refine x_iload_n (pc := 0) C (d_I_dropEnd 0 rfl) rfl 1 rfl ?_
  refine x_iconst (pc := 1) (v := 1) C (by decide) (d_I_dropEnd 1 rfl) ?_
  refine x_icmp_ne (pc := 2) (tgt := 18) C (d_I_dropEnd 2 rfl) (by decide) (fun c1 => ?_) (fun c1 => ?_)
  · rw [if_neg c1] at h
    refine x_aload_n (pc := 18) C (d_I_dropEnd 10 rfl) rfl 0 rfl ?_
    refine x_dup (pc := 19) C rfl (d_I_dropEnd 11 rfl) ?_
    refine x_getI (pc := 20) C fl_I_22 rfl (d_I_dropEnd 12 rfl) ?_
    refine x_iconst (pc := 23) (v := 1) C (by decide) (d_I_dropEnd 13 rfl) ?_
    refine x_isub (pc := 24) C (d_I_dropEnd 14 rfl) ?_
    refine x_putI (pc := 25) C fl_I_22 (pf_I_22 _) rfl ty_3_2 (d_I_dropEnd 15 rfl) ?_
    refine x_aload_n (pc := 28) C (d_I_dropEnd 16 rfl) rfl 0 rfl ?_
    cases c2 : f_I_isThere x0 (xsI st 3 x0 2 ((st.1 3 x0 2) - (1 : Int32))) with
    | none => rw [c2] at h; cases h
    | some v3 =>
      rw [c2] at h
      dsimp only at h
      refine x_callV (mc := 0) (ms := 0) (pc := 29) (bL := []) (K := []) C cs_I_25 (m_I_isThere l c2 : x_M l _ _ _ _ (.inl (some (xI v3))) _ 0 0) (by decide) rfl (Nat.le_of_ble_eq_true rfl) (d_I_dropEnd 17 rfl) ?_
      refine x_if_ne (pc := 32) (tgt := 42) C (d_I_dropEnd 18 rfl) (by decide) (fun c4 => ?_) (fun c4 => ?_)
      · rw [if_neg c4] at h
        cases h
        exact x_vret (pc := 42) C hret (Nat.zero_le _) (Nat.zero_le _) (d_I_dropEnd 22 rfl)
      · rw [if_pos c4] at h
        refine x_aload_n (pc := 35) C (d_I_dropEnd 19 rfl) rfl 0 rfl ?_
        refine x_getR (pc := 36) (t := 5) C fl_I_12 rfl rfl (d_I_dropEnd 20 rfl) ?_
        cases c6 : (xsI st 3 x0 2 ((st.1 3 x0 2) - (1 : Int32))).2.2.1 3 x0 0 with
        | none => rw [c6] at h; cases h
        | some i5 =>
          rw [c6] at h
          dsimp only at h
          cases c7 : f_B_empty i5 (xsI st 3 x0 2 ((st.1 3 x0 2) - (1 : Int32))) with
          | none => rw [c7] at h; cases h
          | some w10 =>
            obtain ⟨v8, st9⟩ := w10
            rw [c7] at h
            dsimp only at h
            refine x_callV (mc := 0) (ms := 0) (pc := 39) (bL := []) (K := []) C cs_I_29 (m_B_empty l c7 : x_M l _ _ _ _ (.inl none) _ 0 0) (by decide) rfl (Nat.le_of_ble_eq_true rfl) (d_I_dropEnd 21 rfl) ?_
            cases h
            exact x_vret (pc := 42) C hret (Nat.zero_le _) (Nat.zero_le _) (d_I_dropEnd 22 rfl)
  · rw [if_pos c1] at h
    refine x_aload_n (pc := 5) C (d_I_dropEnd 3 rfl) rfl 0 rfl ?_
    refine x_dup (pc := 6) C rfl (d_I_dropEnd 4 rfl) ?_
    refine x_getI (pc := 7) C fl_I_18 rfl (d_I_dropEnd 5 rfl) ?_
    refine x_iconst (pc := 10) (v := 1) C (by decide) (d_I_dropEnd 6 rfl) ?_
    refine x_isub (pc := 11) C (d_I_dropEnd 7 rfl) ?_
    refine x_putI (pc := 12) C fl_I_18 (pf_I_18 _) rfl ty_3_1 (d_I_dropEnd 8 rfl) ?_
    refine x_goto (pc := 15) (tgt := 28) C (d_I_dropEnd 9 rfl) (by decide) ?_
    refine x_aload_n (pc := 28) C (d_I_dropEnd 16 rfl) rfl 0 rfl ?_
    cases c12 : f_I_isThere x0 (xsI st 3 x0 1 ((st.1 3 x0 1) - (1 : Int32))) with
    | none => rw [c12] at h; cases h
    | some v13 =>
      rw [c12] at h
      dsimp only at h
      refine x_callV (mc := 0) (ms := 0) (pc := 29) (bL := []) (K := []) C cs_I_25 (m_I_isThere l c12 : x_M l _ _ _ _ (.inl (some (xI v13))) _ 0 0) (by decide) rfl (Nat.le_of_ble_eq_true rfl) (d_I_dropEnd 17 rfl) ?_
      refine x_if_ne (pc := 32) (tgt := 42) C (d_I_dropEnd 18 rfl) (by decide) (fun c14 => ?_) (fun c14 => ?_)
      · rw [if_neg c14] at h
        cases h
        exact x_vret (pc := 42) C hret (Nat.zero_le _) (Nat.zero_le _) (d_I_dropEnd 22 rfl)
      · rw [if_pos c14] at h
        refine x_aload_n (pc := 35) C (d_I_dropEnd 19 rfl) rfl 0 rfl ?_
        refine x_getR (pc := 36) (t := 5) C fl_I_12 rfl rfl (d_I_dropEnd 20 rfl) ?_
        cases c16 : (xsI st 3 x0 1 ((st.1 3 x0 1) - (1 : Int32))).2.2.1 3 x0 0 with
        | none => rw [c16] at h; cases h
        | some i15 =>
          rw [c16] at h
          dsimp only at h
          cases c17 : f_B_empty i15 (xsI st 3 x0 1 ((st.1 3 x0 1) - (1 : Int32))) with
          | none => rw [c17] at h; cases h
          | some w20 =>
            obtain ⟨v18, st19⟩ := w20
            rw [c17] at h
            dsimp only at h
            refine x_callV (mc := 0) (ms := 0) (pc := 39) (bL := []) (K := []) C cs_I_29 (m_B_empty l c17 : x_M l _ _ _ _ (.inl none) _ 0 0) (by decide) rfl (Nat.le_of_ble_eq_true rfl) (d_I_dropEnd 21 rfl) ?_
            cases h
            exact x_vret (pc := 42) C hret (Nat.zero_le _) (Nat.zero_le _) (d_I_dropEnd 22 rfl)
def f_O_drop (x0 : Nat) (st : XS) : Option (Unit × XS) :=
  if ((xsI st 2 x0 4 ((st.1 2 x0 4) - (1 : Int32))).1 2 x0 4) ≤ 0 then
    match (xsI st 2 x0 4 ((st.1 2 x0 4) - (1 : Int32))).2.2.1 2 x0 0 with
    | none =>
      match (xsI st 2 x0 4 ((st.1 2 x0 4) - (1 : Int32))).2.2.1 2 x0 1 with
      | none =>
        some ((), xsI st 2 x0 4 ((st.1 2 x0 4) - (1 : Int32)))
      | some i5 =>
        some ((), xsI (xsI st 2 x0 4 ((st.1 2 x0 4) - (1 : Int32))) 4 i5 3 (((xsI st 2 x0 4 ((st.1 2 x0 4) - (1 : Int32))).1 4 i5 3) - (1 : Int32)))
    | some i3 =>
      match f_I_dropEnd i3 ((xsI st 2 x0 4 ((st.1 2 x0 4) - (1 : Int32))).1 2 x0 3) (xsI st 2 x0 4 ((st.1 2 x0 4) - (1 : Int32))) with
      | none => none
      | some (_, st8) =>
        match st8.2.2.1 2 x0 1 with
        | none =>
          some ((), st8)
        | some i10 =>
          some ((), xsI st8 4 i10 3 ((st8.1 4 i10 3) - (1 : Int32)))
  else
    some ((), xsI st 2 x0 4 ((st.1 2 x0 4) - (1 : Int32)))
set_option maxRecDepth 100000 in
set_option maxHeartbeats 4000000 in
theorem m_O_drop (l : Launch) {x0 : Nat} {st : XS} {r : Unit} {st2 : XS} (h : f_O_drop x0 st = some (r, st2)) : x_M l M_O_drop rm_O_drop [xR 2 (some (x0))] st (.inl (none)) st2 0 0 := by
  refine x_enter (Nat.le_of_ble_eq_true rfl) ?_
  intro p e s m below meth c D cA g args B C
  have hret := B.2.2.2.2.2.2.2.2.1
  have hmn := B.2.2.2.2.2.2.2.1
  have hex := B.2.2.2.2.2.2.2.2.2.1
  unfold f_O_drop at h
  refine x_aload_n (pc := 0) C (d_O_drop 0 rfl) rfl 0 rfl ?_
  refine x_dup (pc := 1) C rfl (d_O_drop 1 rfl) ?_
  refine x_getI (pc := 2) C fl_O_24 rfl (d_O_drop 2 rfl) ?_
  refine x_iconst (pc := 5) (v := 1) C (by decide) (d_O_drop 3 rfl) ?_
  refine x_isub (pc := 6) C (d_O_drop 4 rfl) ?_
  refine x_putI (pc := 7) C fl_O_24 (pf_O_24 _) rfl ty_2_4 (d_O_drop 5 rfl) ?_
  refine x_aload_n (pc := 10) C (d_O_drop 6 rfl) rfl 0 rfl ?_
  refine x_getI (pc := 11) C fl_O_24 rfl (d_O_drop 7 rfl) ?_
  refine x_if_le (pc := 14) (tgt := 18) C (d_O_drop 8 rfl) (by decide) (fun c1 => ?_) (fun c1 => ?_)
  · rw [if_pos c1] at h
    refine x_aload_n (pc := 18) C (d_O_drop 10 rfl) rfl 0 rfl ?_
    refine x_getR (pc := 19) (t := 3) C fl_O_7 rfl rfl (d_O_drop 11 rfl) ?_
    refine x_ifnull (pc := 22) (tgt := 36) C (d_O_drop 12 rfl) (by decide) (fun c2 => ?_) (fun i3 c2 => ?_)
    · rw [c2] at h; try rw [c2]
      dsimp only at h
      refine x_aload_n (pc := 36) C (d_O_drop 18 rfl) rfl 0 rfl ?_
      refine x_getR (pc := 37) (t := 4) C fl_O_13 rfl rfl (d_O_drop 19 rfl) ?_
      refine x_ifnull (pc := 40) (tgt := 56) C (d_O_drop 20 rfl) (by decide) (fun c4 => ?_) (fun i5 c4 => ?_)
      · rw [c4] at h; try rw [c4]
        dsimp only at h
        cases h
        exact x_vret (pc := 56) C hret (Nat.zero_le _) (Nat.zero_le _) (d_O_drop 28 rfl)
      · rw [c4] at h; try rw [c4]
        dsimp only at h
        refine x_aload_n (pc := 43) C (d_O_drop 21 rfl) rfl 0 rfl ?_
        refine x_getR (pc := 44) (t := 4) C fl_O_13 rfl rfl (d_O_drop 22 rfl) ?_
        rw [c4]
        refine x_dup (pc := 47) C rfl (d_O_drop 23 rfl) ?_
        refine x_getI (pc := 48) C fl_O_33 rfl (d_O_drop 24 rfl) ?_
        refine x_iconst (pc := 51) (v := 1) C (by decide) (d_O_drop 25 rfl) ?_
        refine x_isub (pc := 52) C (d_O_drop 26 rfl) ?_
        refine x_putI (pc := 53) C fl_O_33 (pf_O_33 _) rfl ty_4_3 (d_O_drop 27 rfl) ?_
        cases h
        exact x_vret (pc := 56) C hret (Nat.zero_le _) (Nat.zero_le _) (d_O_drop 28 rfl)
    · rw [c2] at h; try rw [c2]
      dsimp only at h
      refine x_aload_n (pc := 25) C (d_O_drop 13 rfl) rfl 0 rfl ?_
      refine x_getR (pc := 26) (t := 3) C fl_O_7 rfl rfl (d_O_drop 14 rfl) ?_
      rw [c2]
      refine x_aload_n (pc := 29) C (d_O_drop 15 rfl) rfl 0 rfl ?_
      refine x_getI (pc := 30) C fl_O_21 rfl (d_O_drop 16 rfl) ?_
      cases c6 : f_I_dropEnd i3 ((xsI st 2 x0 4 ((st.1 2 x0 4) - (1 : Int32))).1 2 x0 3) (xsI st 2 x0 4 ((st.1 2 x0 4) - (1 : Int32))) with
      | none => rw [c6] at h; cases h
      | some w11 =>
        obtain ⟨v7, st8⟩ := w11
        rw [c6] at h
        dsimp only at h
        refine x_callV (mc := 0) (ms := 0) (pc := 33) (bL := [xI ((xsI st 2 x0 4 ((st.1 2 x0 4) - (1 : Int32))).1 2 x0 3)]) (K := []) C cs_O_38 (m_I_dropEnd l c6 : x_M l _ _ _ _ (.inl none) _ 0 0) (by decide) rfl (Nat.le_of_ble_eq_true rfl) (d_O_drop 17 rfl) ?_
        refine x_aload_n (pc := 36) C (d_O_drop 18 rfl) rfl 0 rfl ?_
        refine x_getR (pc := 37) (t := 4) C fl_O_13 rfl rfl (d_O_drop 19 rfl) ?_
        refine x_ifnull (pc := 40) (tgt := 56) C (d_O_drop 20 rfl) (by decide) (fun c9 => ?_) (fun i10 c9 => ?_)
        · rw [c9] at h; try rw [c9]
          dsimp only at h
          cases h
          exact x_vret (pc := 56) C hret (Nat.zero_le _) (Nat.zero_le _) (d_O_drop 28 rfl)
        · rw [c9] at h; try rw [c9]
          dsimp only at h
          refine x_aload_n (pc := 43) C (d_O_drop 21 rfl) rfl 0 rfl ?_
          refine x_getR (pc := 44) (t := 4) C fl_O_13 rfl rfl (d_O_drop 22 rfl) ?_
          rw [c9]
          refine x_dup (pc := 47) C rfl (d_O_drop 23 rfl) ?_
          refine x_getI (pc := 48) C fl_O_33 rfl (d_O_drop 24 rfl) ?_
          refine x_iconst (pc := 51) (v := 1) C (by decide) (d_O_drop 25 rfl) ?_
          refine x_isub (pc := 52) C (d_O_drop 26 rfl) ?_
          refine x_putI (pc := 53) C fl_O_33 (pf_O_33 _) rfl ty_4_3 (d_O_drop 27 rfl) ?_
          cases h
          exact x_vret (pc := 56) C hret (Nat.zero_le _) (Nat.zero_le _) (d_O_drop 28 rfl)
  · rw [if_neg c1] at h
    cases h
    exact x_vret (pc := 17) C hret (Nat.zero_le _) (Nat.zero_le _) (d_O_drop 9 rfl)
def f_P_release (x0 : Nat) (x1 : Int32) (st : XS) : Option (Unit × XS) :=
  match f_P_openingAt x0 x1 st with
  | none => none
  | some v2 =>
    match v2 with
    | none =>
      some ((), st)
    | some i4 =>
      match f_O_drop i4 st with
      | none => none
      | some (_, st7) =>
        match st7.2.2.1 1 x0 0 with
        | none => none
        | some i8 =>
          if x_in x1 8 then
            some ((), xsR st7 10 i8 x1.toNatClampNeg (none))
          else none
set_option maxRecDepth 100000 in
set_option maxHeartbeats 4000000 in
theorem m_P_release (l : Launch) {x0 : Nat} {x1 : Int32} {st : XS} {r : Unit} {st2 : XS} (h : f_P_release x0 x1 st = some (r, st2)) : x_M l M_P_release rm_P_release [xR 1 (some (x0)), xI (x1)] st (.inl (none)) st2 0 0 := by
  refine x_enter (Nat.le_of_ble_eq_true rfl) ?_
  intro p e s m below meth c D cA g args B C
  have hret := B.2.2.2.2.2.2.2.2.1
  have hmn := B.2.2.2.2.2.2.2.1
  have hex := B.2.2.2.2.2.2.2.2.2.1
  unfold f_P_release at h
  refine x_aload_n (pc := 0) C (d_P_release 0 rfl) rfl 0 rfl ?_
  refine x_iload_n (pc := 1) C (d_P_release 1 rfl) rfl 1 rfl ?_
  cases c1 : f_P_openingAt x0 x1 st with
  | none => rw [c1] at h; cases h
  | some v2 =>
    rw [c1] at h
    dsimp only at h
    refine x_callV (mc := 0) (ms := 0) (pc := 2) (bL := [xI (x1)]) (K := []) C cs_P_47 (m_P_openingAt l c1 : x_M l _ _ _ _ (.inl (some (xR 2 v2))) _ 0 0) (by decide) rfl (Nat.le_of_ble_eq_true rfl) (d_P_release 2 rfl) ?_
    refine x_astore_n (pc := 5) (L2 := [(2, xR 2 (v2)), (0, xR 1 (some (x0))), (1, xI (x1))]) C (d_P_release 3 rfl) rfl (by decide) rfl ?_
    refine x_aload_n (pc := 6) C (d_P_release 4 rfl) rfl 0 rfl ?_
    refine x_ifnull (pc := 7) (tgt := 21) C (d_P_release 5 rfl) (by decide) (fun c3 => ?_) (fun i4 c3 => ?_)
    · rw [c3] at h; try rw [c3]
      dsimp only at h
      cases h
      exact x_vret (pc := 21) C hret (Nat.zero_le _) (Nat.zero_le _) (d_P_release 13 rfl)
    · rw [c3] at h; try rw [c3]
      dsimp only at h
      refine x_aload_n (pc := 10) C (d_P_release 6 rfl) rfl 0 rfl ?_
      cases c5 : f_O_drop i4 st with
      | none => rw [c5] at h; cases h
      | some w11 =>
        obtain ⟨v6, st7⟩ := w11
        rw [c5] at h
        dsimp only at h
        refine x_callV (mc := 0) (ms := 0) (pc := 11) (bL := []) (K := []) C cs_P_51 (m_O_drop l c5 : x_M l _ _ _ _ (.inl none) _ 0 0) (by decide) rfl (Nat.le_of_ble_eq_true rfl) (d_P_release 7 rfl) ?_
        refine x_aload_n (pc := 14) C (d_P_release 8 rfl) rfl 1 rfl ?_
        refine x_getR (pc := 15) (t := 10) C fl_P_11 rfl rfl (d_P_release 9 rfl) ?_
        refine x_iload_n (pc := 18) C (d_P_release 10 rfl) rfl 2 rfl ?_
        refine x_nullq (pc := 19) (q := 2) C (d_P_release 11 rfl) ?_
        cases c9 : st7.2.2.1 1 x0 0 with
        | none => rw [c9] at h; cases h
        | some i8 =>
          rw [c9] at h
          dsimp only at h
          by_cases b10 : x_in x1 8
          · rw [if_pos b10] at h
            refine x_aastN (pc := 20) C ar_10 b10 (d_P_release 12 rfl) ?_
            cases h
            exact x_vret (pc := 21) C hret (Nat.zero_le _) (Nat.zero_le _) (d_P_release 13 rfl)
          · rw [if_neg b10] at h; cases h
def f_P_hold (x0 : Nat) (x1 : Int32) (x2 : Option Nat) (st : XS) : Option (Unit × XS) :=
  if x1 < 0 then
    some ((), st)
  else
    if x1 < 8 then
      match x2 with
      | none => none
      | some i3 =>
        match f_P_release x0 x1 (xsI st 2 i3 4 ((st.1 2 i3 4) + (1 : Int32))) with
        | none => none
        | some (_, st7) =>
          match st7.2.2.1 1 x0 0 with
          | none => none
          | some i8 =>
            if x_in x1 8 then
              some ((), xsR st7 10 i8 x1.toNatClampNeg (some (i3)))
            else none
    else
      some ((), st)
set_option maxRecDepth 100000 in
set_option maxHeartbeats 4000000 in
theorem m_P_hold (l : Launch) {x0 : Nat} {x1 : Int32} {x2 : Option Nat} {st : XS} {r : Unit} {st2 : XS} (h : f_P_hold x0 x1 x2 st = some (r, st2)) : x_M l M_P_hold rm_P_hold [xR 1 (some (x0)), xI (x1), xR 2 (x2)] st (.inl (none)) st2 0 0 := by
  refine x_enter (Nat.le_of_ble_eq_true rfl) ?_
  intro p e s m below meth c D cA g args B C
  have hret := B.2.2.2.2.2.2.2.2.1
  have hmn := B.2.2.2.2.2.2.2.1
  have hex := B.2.2.2.2.2.2.2.2.2.1
  unfold f_P_hold at h
  refine x_iload_n (pc := 0) C (d_P_hold 0 rfl) rfl 1 rfl ?_
  refine x_if_lt (pc := 1) (tgt := 10) C (d_P_hold 1 rfl) (by decide) (fun c1 => ?_) (fun c1 => ?_)
  · rw [if_pos c1] at h
    cases h
    exact x_vret (pc := 10) C hret (Nat.zero_le _) (Nat.zero_le _) (d_P_hold 5 rfl)
  · rw [if_neg c1] at h
    refine x_iload_n (pc := 4) C (d_P_hold 2 rfl) rfl 1 rfl ?_
    refine x_bipush (pc := 5) (v := 8) C (by decide) (d_P_hold 3 rfl) ?_
    refine x_icmp_lt (pc := 7) (tgt := 11) C (d_P_hold 4 rfl) (by decide) (fun c2 => ?_) (fun c2 => ?_)
    · rw [if_pos c2] at h
      refine x_aload_n (pc := 11) C (d_P_hold 6 rfl) rfl 2 rfl ?_
      refine x_dup (pc := 12) C rfl (d_P_hold 7 rfl) ?_
      cases c4 : x2 with
      | none => rw [c4] at h; cases h
      | some i3 =>
        rw [c4] at h
        dsimp only at h
        refine x_getI (pc := 13) C fl_P_44 rfl (d_P_hold 8 rfl) ?_
        refine x_iconst (pc := 16) (v := 1) C (by decide) (d_P_hold 9 rfl) ?_
        refine x_iadd (pc := 17) C (d_P_hold 10 rfl) ?_
        refine x_putI (pc := 18) C fl_P_44 (pf_P_44 _) rfl ty_2_4 (d_P_hold 11 rfl) ?_
        refine x_aload_n (pc := 21) C (d_P_hold 12 rfl) rfl 0 rfl ?_
        refine x_iload_n (pc := 22) C (d_P_hold 13 rfl) rfl 1 rfl ?_
        cases c5 : f_P_release x0 x1 (xsI st 2 i3 4 ((st.1 2 i3 4) + (1 : Int32))) with
        | none => rw [c5] at h; cases h
        | some w11 =>
          obtain ⟨v6, st7⟩ := w11
          rw [c5] at h
          dsimp only at h
          refine x_callV (mc := 0) (ms := 0) (pc := 23) (bL := [xI (x1)]) (K := []) C cs_P_34 (m_P_release l c5 : x_M l _ _ _ _ (.inl none) _ 0 0) (by decide) rfl (Nat.le_of_ble_eq_true rfl) (d_P_hold 14 rfl) ?_
          refine x_aload_n (pc := 26) C (d_P_hold 15 rfl) rfl 0 rfl ?_
          refine x_getR (pc := 27) (t := 10) C fl_P_11 rfl rfl (d_P_hold 16 rfl) ?_
          refine x_iload_n (pc := 30) C (d_P_hold 17 rfl) rfl 1 rfl ?_
          refine x_aload_n (pc := 31) C (d_P_hold 18 rfl) rfl 2 rfl ?_
          cases c9 : st7.2.2.1 1 x0 0 with
          | none => rw [c9] at h; cases h
          | some i8 =>
            rw [c9] at h
            dsimp only at h
            by_cases b10 : x_in x1 8
            · rw [if_pos b10] at h
              refine x_aast (pc := 32) C ar_10 rfl rfl rfl rfl b10 (d_P_hold 19 rfl) ?_
              cases h
              exact x_vret (pc := 33) C hret (Nat.zero_le _) (Nat.zero_le _) (d_P_hold 20 rfl)
            · rw [if_neg b10] at h; cases h
    · rw [if_neg c2] at h
      cases h
      exact x_vret (pc := 10) C hret (Nat.zero_le _) (Nat.zero_le _) (d_P_hold 5 rfl)
def f_B_byteAt (x0 : Nat) (x1 : Int32) (st : XS) : Option Int32 :=
  match st.2.2.1 5 x0 0 with
  | none => none
  | some i1 =>
    if x_in (((st.1 5 x0 1) + x1) &&& (63 : Int32)) 64 then
      some (st.1 12 i1 (((st.1 5 x0 1) + x1) &&& (63 : Int32)).toNatClampNeg)
    else none
set_option maxRecDepth 100000 in
set_option maxHeartbeats 4000000 in
theorem m_B_byteAt (l : Launch) {x0 : Nat} {x1 : Int32} {st : XS} {r : Int32} (h : f_B_byteAt x0 x1 st = some r) : x_M l M_B_byteAt rm_B_byteAt [xR 5 (some (x0)), xI (x1)] st (.inl (some (xI r))) st 0 0 := by
  refine x_enter (Nat.le_of_ble_eq_true rfl) ?_
  intro p e s m below meth c D cA g args B C
  have hret := B.2.2.2.2.2.2.2.2.1
  have hmn := B.2.2.2.2.2.2.2.1
  have hex := B.2.2.2.2.2.2.2.2.2.1
  unfold f_B_byteAt at h
  refine x_aload_n (pc := 0) C (d_B_byteAt 0 rfl) rfl 0 rfl ?_
  refine x_getR (pc := 1) (t := 12) C fl_B_9 rfl rfl (d_B_byteAt 1 rfl) ?_
  refine x_aload_n (pc := 4) C (d_B_byteAt 2 rfl) rfl 0 rfl ?_
  refine x_getI (pc := 5) C fl_B_13 rfl (d_B_byteAt 3 rfl) ?_
  refine x_iload_n (pc := 8) C (d_B_byteAt 4 rfl) rfl 1 rfl ?_
  refine x_iadd (pc := 9) C (d_B_byteAt 5 rfl) ?_
  refine x_bipush (pc := 10) (v := 63) C (by decide) (d_B_byteAt 6 rfl) ?_
  refine x_iand (pc := 12) C (d_B_byteAt 7 rfl) ?_
  cases c2 : st.2.2.1 5 x0 0 with
  | none => rw [c2] at h; cases h
  | some i1 =>
    rw [c2] at h
    dsimp only at h
    by_cases b3 : x_in (((st.1 5 x0 1) + x1) &&& (63 : Int32)) 64
    · rw [if_pos b3] at h
      refine x_iald (pc := 13) C ar_12 b3 (d_B_byteAt 8 rfl) ?_
      cases h
      exact x_iret (pc := 14) C hret rfl (Nat.zero_le _) (Nat.zero_le _) (d_B_byteAt 9 rfl)
    · rw [if_neg b3] at h; cases h
def f_O_has (x0 : Nat) (x1 : Int32) (st : XS) : Option Int32 :=
  if ((st.1 2 x0 3) &&& x1) = 0 then
    some (0)
  else
    some (1)
set_option maxRecDepth 100000 in
set_option maxHeartbeats 4000000 in
theorem m_O_has (l : Launch) {x0 : Nat} {x1 : Int32} {st : XS} {r : Int32} (h : f_O_has x0 x1 st = some r) : x_M l M_O_has rm_O_has [xR 2 (some (x0)), xI (x1)] st (.inl (some (xI r))) st 0 0 := by
  refine x_enter (Nat.le_of_ble_eq_true rfl) ?_
  intro p e s m below meth c D cA g args B C
  have hret := B.2.2.2.2.2.2.2.2.1
  have hmn := B.2.2.2.2.2.2.2.1
  have hex := B.2.2.2.2.2.2.2.2.2.1
  unfold f_O_has at h
  refine x_aload_n (pc := 0) C (d_O_has 0 rfl) rfl 0 rfl ?_
  refine x_getI (pc := 1) C fl_O_21 rfl (d_O_has 1 rfl) ?_
  refine x_iload_n (pc := 4) C (d_O_has 2 rfl) rfl 1 rfl ?_
  refine x_iand (pc := 5) C (d_O_has 3 rfl) ?_
  refine x_if_eq (pc := 6) (tgt := 13) C (d_O_has 4 rfl) (by decide) (fun c1 => ?_) (fun c1 => ?_)
  · rw [if_pos c1] at h
    refine x_iconst (pc := 13) (v := 0) C (by decide) (d_O_has 7 rfl) ?_
    cases h
    exact x_iret (pc := 14) C hret rfl (Nat.zero_le _) (Nat.zero_le _) (d_O_has 8 rfl)
  · rw [if_neg c1] at h
    refine x_iconst (pc := 9) (v := 1) C (by decide) (d_O_has 5 rfl) ?_
    refine x_goto (pc := 10) (tgt := 14) C (d_O_has 6 rfl) (by decide) ?_
    cases h
    exact x_iret (pc := 14) C hret rfl (Nat.zero_le _) (Nat.zero_le _) (d_O_has 8 rfl)
def f_P_isWaiting (x0 : Nat) (st : XS) : Option Int32 :=
  if (st.1 1 x0 1) = 2 then
    some (1)
  else
    if (st.1 1 x0 1) = 3 then
      some (1)
    else
      some (0)
set_option maxRecDepth 100000 in
set_option maxHeartbeats 4000000 in
theorem m_P_isWaiting (l : Launch) {x0 : Nat} {st : XS} {r : Int32} (h : f_P_isWaiting x0 st = some r) : x_M l M_P_isWaiting rm_P_isWaiting [xR 1 (some (x0))] st (.inl (some (xI r))) st 0 0 := by
  refine x_enter (Nat.le_of_ble_eq_true rfl) ?_
  intro p e s m below meth c D cA g args B C
  have hret := B.2.2.2.2.2.2.2.2.1
  have hmn := B.2.2.2.2.2.2.2.1
  have hex := B.2.2.2.2.2.2.2.2.2.1
  unfold f_P_isWaiting at h
  refine x_aload_n (pc := 0) C (d_P_isWaiting 0 rfl) rfl 0 rfl ?_
  refine x_getI (pc := 1) C fl_P_17 rfl (d_P_isWaiting 1 rfl) ?_
  refine x_iconst (pc := 4) (v := 2) C (by decide) (d_P_isWaiting 2 rfl) ?_
  refine x_icmp_eq (pc := 5) (tgt := 16) C (d_P_isWaiting 3 rfl) (by decide) (fun c1 => ?_) (fun c1 => ?_)
  · rw [if_pos c1] at h
    refine x_iconst (pc := 16) (v := 1) C (by decide) (d_P_isWaiting 8 rfl) ?_
    refine x_goto (pc := 17) (tgt := 21) C (d_P_isWaiting 9 rfl) (by decide) ?_
    cases h
    exact x_iret (pc := 21) C hret rfl (Nat.zero_le _) (Nat.zero_le _) (d_P_isWaiting 11 rfl)
  · rw [if_neg c1] at h
    refine x_aload_n (pc := 8) C (d_P_isWaiting 4 rfl) rfl 0 rfl ?_
    refine x_getI (pc := 9) C fl_P_17 rfl (d_P_isWaiting 5 rfl) ?_
    refine x_iconst (pc := 12) (v := 3) C (by decide) (d_P_isWaiting 6 rfl) ?_
    refine x_icmp_ne (pc := 13) (tgt := 20) C (d_P_isWaiting 7 rfl) (by decide) (fun c2 => ?_) (fun c2 => ?_)
    · rw [if_neg c2] at h
      refine x_iconst (pc := 20) (v := 0) C (by decide) (d_P_isWaiting 10 rfl) ?_
      cases h
      exact x_iret (pc := 21) C hret rfl (Nat.zero_le _) (Nat.zero_le _) (d_P_isWaiting 11 rfl)
    · rw [if_pos c2] at h
      refine x_iconst (pc := 16) (v := 1) C (by decide) (d_P_isWaiting 8 rfl) ?_
      refine x_goto (pc := 17) (tgt := 21) C (d_P_isWaiting 9 rfl) (by decide) ?_
      cases h
      exact x_iret (pc := 21) C hret rfl (Nat.zero_le _) (Nat.zero_le _) (d_P_isWaiting 11 rfl)
def f_F_isThere (x0 : Nat) (st : XS) : Option Int32 :=
  if (st.1 4 x0 2) = 0 then
    if (st.1 4 x0 3) ≤ 0 then
      some (0)
    else
      some (1)
  else
    some (1)
set_option maxRecDepth 100000 in
set_option maxHeartbeats 4000000 in
theorem m_F_isThere (l : Launch) {x0 : Nat} {st : XS} {r : Int32} (h : f_F_isThere x0 st = some r) : x_M l M_F_isThere rm_F_isThere [xR 4 (some (x0))] st (.inl (some (xI r))) st 0 0 := by
  refine x_enter (Nat.le_of_ble_eq_true rfl) ?_
  intro p e s m below meth c D cA g args B C
  have hret := B.2.2.2.2.2.2.2.2.1
  have hmn := B.2.2.2.2.2.2.2.1
  have hex := B.2.2.2.2.2.2.2.2.2.1
  unfold f_F_isThere at h
  refine x_aload_n (pc := 0) C (d_F_isThere 0 rfl) rfl 0 rfl ?_
  refine x_getI (pc := 1) C fl_F_19 rfl (d_F_isThere 1 rfl) ?_
  refine x_if_ne (pc := 4) (tgt := 14) C (d_F_isThere 2 rfl) (by decide) (fun c1 => ?_) (fun c1 => ?_)
  · rw [if_neg c1] at h
    refine x_iconst (pc := 14) (v := 1) C (by decide) (d_F_isThere 6 rfl) ?_
    refine x_goto (pc := 15) (tgt := 19) C (d_F_isThere 7 rfl) (by decide) ?_
    cases h
    exact x_iret (pc := 19) C hret rfl (Nat.zero_le _) (Nat.zero_le _) (d_F_isThere 9 rfl)
  · rw [if_pos c1] at h
    refine x_aload_n (pc := 7) C (d_F_isThere 3 rfl) rfl 0 rfl ?_
    refine x_getI (pc := 8) C fl_F_22 rfl (d_F_isThere 4 rfl) ?_
    refine x_if_le (pc := 11) (tgt := 18) C (d_F_isThere 5 rfl) (by decide) (fun c2 => ?_) (fun c2 => ?_)
    · rw [if_pos c2] at h
      refine x_iconst (pc := 18) (v := 0) C (by decide) (d_F_isThere 8 rfl) ?_
      cases h
      exact x_iret (pc := 19) C hret rfl (Nat.zero_le _) (Nat.zero_le _) (d_F_isThere 9 rfl)
    · rw [if_neg c2] at h
      refine x_iconst (pc := 14) (v := 1) C (by decide) (d_F_isThere 6 rfl) ?_
      refine x_goto (pc := 15) (tgt := 19) C (d_F_isThere 7 rfl) (by decide) ?_
      cases h
      exact x_iret (pc := 19) C hret rfl (Nat.zero_le _) (Nat.zero_le _) (d_F_isThere 9 rfl)
def f_O_isEnd (x0 : Nat) (x1 : Option Nat) (x2 : Int32) (st : XS) : Option Int32 :=
  if (st.2.2.1 2 x0 0 : Option Nat) = x1 then
    if (st.1 2 x0 3) = x2 then
      some (1)
    else
      some (0)
  else
    some (0)
set_option maxRecDepth 100000 in
set_option maxHeartbeats 4000000 in
theorem m_O_isEnd (l : Launch) {x0 : Nat} {x1 : Option Nat} {x2 : Int32} {st : XS} {r : Int32} (h : f_O_isEnd x0 x1 x2 st = some r) : x_M l M_O_isEnd rm_O_isEnd [xR 2 (some (x0)), xR 3 (x1), xI (x2)] st (.inl (some (xI r))) st 0 0 := by
  refine x_enter (Nat.le_of_ble_eq_true rfl) ?_
  intro p e s m below meth c D cA g args B C
  have hret := B.2.2.2.2.2.2.2.2.1
  have hmn := B.2.2.2.2.2.2.2.1
  have hex := B.2.2.2.2.2.2.2.2.2.1
  unfold f_O_isEnd at h
  refine x_aload_n (pc := 0) C (d_O_isEnd 0 rfl) rfl 0 rfl ?_
  refine x_getR (pc := 1) (t := 3) C fl_O_7 rfl rfl (d_O_isEnd 1 rfl) ?_
  refine x_aload_n (pc := 4) C (d_O_isEnd 2 rfl) rfl 1 rfl ?_
  refine x_acmp_ne (pc := 5) (tgt := 20) C (d_O_isEnd 3 rfl) (by decide) (fun c1 => ?_) (fun c1 => ?_)
  · rw [if_neg c1] at h
    refine x_iconst (pc := 20) (v := 0) C (by decide) (d_O_isEnd 10 rfl) ?_
    cases h
    exact x_iret (pc := 21) C hret rfl (Nat.zero_le _) (Nat.zero_le _) (d_O_isEnd 11 rfl)
  · rw [if_pos c1] at h
    refine x_aload_n (pc := 8) C (d_O_isEnd 4 rfl) rfl 0 rfl ?_
    refine x_getI (pc := 9) C fl_O_21 rfl (d_O_isEnd 5 rfl) ?_
    refine x_iload_n (pc := 12) C (d_O_isEnd 6 rfl) rfl 2 rfl ?_
    refine x_icmp_ne (pc := 13) (tgt := 20) C (d_O_isEnd 7 rfl) (by decide) (fun c2 => ?_) (fun c2 => ?_)
    · rw [if_neg c2] at h
      refine x_iconst (pc := 20) (v := 0) C (by decide) (d_O_isEnd 10 rfl) ?_
      cases h
      exact x_iret (pc := 21) C hret rfl (Nat.zero_le _) (Nat.zero_le _) (d_O_isEnd 11 rfl)
    · rw [if_pos c2] at h
      refine x_iconst (pc := 16) (v := 1) C (by decide) (d_O_isEnd 8 rfl) ?_
      refine x_goto (pc := 17) (tgt := 21) C (d_O_isEnd 9 rfl) (by decide) ?_
      cases h
      exact x_iret (pc := 21) C hret rfl (Nat.zero_le _) (Nat.zero_le _) (d_O_isEnd 11 rfl)
def f_P_holdsEnd_12  : Nat → Option Nat → Int32 → Option Nat → Int32 → Int32 → XS → Option Int32
  | 0, _, _, _, _, _, _ => none
  | n + 1, x1, x2, x3, x4, x5, st =>
    if x4 ≤ x5 then
      some (0)
    else
      match x3 with
      | none => none
      | some i2 =>
        if x_in x5 8 then
          match st.2.2.1 10 i2 x5.toNatClampNeg with
          | none =>
            f_P_holdsEnd_12 n (x1) x2 (some (i2)) x4 (x5 + 1) st
          | some i6 =>
            match f_O_isEnd i6 (x1) x2 st with
            | none => none
            | some v8 =>
              if v8 = 0 then
                f_P_holdsEnd_12 n (x1) x2 (some (i2)) x4 (x5 + 1) st
              else
                some (1)
        else none
set_option maxRecDepth 100000 in
set_option maxHeartbeats 4000000 in
theorem v_P_holdsEnd_12 {p : Program} {l : Launch} {e : Env} {s : State} {m : MethodId} {args : Array Value} {below : List Frame} {meth : Method} {c : Code} {D : va_G} {cA : Nat → ClassId} {g0 : Nat → Nat → Nat} {n0 : Nat → Nat} {r : Int32} (C : x_C p e rm_P_holdsEnd s m args meth c D cA (x_A g0 n0 s.heap.size) M_P_holdsEnd.2.1 M_P_holdsEnd.1 M_P_holdsEnd.2.2.1) (hret : meth.sig.returnType = M_P_holdsEnd.2.2.2.1) (hmn : meth.name = M_P_holdsEnd.2.2.2.2.2) (hex : c.exceptionTable.toList.map (fun h => (h.startPc, h.endPc, h.handlerPc, h.catchType)) = M_P_holdsEnd.2.2.2.2.1)  : ∀ (n : Nat) (x1 : Option Nat) (x2 : Int32) (x3 : Option Nat) (x4 : Int32) (x5 : Int32) (st : XS), f_P_holdsEnd_12 n x1 x2 x3 x4 x5 st = some r → x_V p l e rm_P_holdsEnd s m args below meth c D cA (x_A g0 n0 s.heap.size) M_P_holdsEnd.2.2.1 g0 n0 (x_MQ D cA g0 n0 below s 0 0 (.inl (some (xI r))) st) 12 [(1, xR 3 (x1)), (2, xI (x2)), (3, xR 10 (x3)), (4, xI (x4)), (5, xI (x5))] [] st 0 0 := by
  intro n
  induction n with
  | zero => intro x1 x2 x3 x4 x5 st h; cases h
  | succ n ih =>
    intro x1 x2 x3 x4 x5 st h
    rw [f_P_holdsEnd_12.eq_def] at h
    dsimp only at h
    refine x_iload (pc := 12) C (d_P_holdsEnd 8 rfl) 4 rfl ?_
    refine x_iload (pc := 14) C (d_P_holdsEnd 9 rfl) 3 rfl ?_
    refine x_icmp_ge (pc := 16) (tgt := 48) C (d_P_holdsEnd 10 rfl) (by decide) (fun c1 => ?_) (fun c1 => ?_)
    · rw [if_pos c1] at h
      refine x_iconst (pc := 48) (v := 0) C (by decide) (d_P_holdsEnd 26 rfl) ?_
      cases h
      exact x_iret (pc := 49) C hret rfl (Nat.zero_le _) (Nat.zero_le _) (d_P_holdsEnd 27 rfl)
    · rw [if_neg c1] at h
      refine x_aload_n (pc := 19) C (d_P_holdsEnd 11 rfl) rfl 2 rfl ?_
      refine x_iload (pc := 20) C (d_P_holdsEnd 12 rfl) 4 rfl ?_
      cases c3 : x3 with
      | none => rw [c3] at h; cases h
      | some i2 =>
        rw [c3] at h
        dsimp only at h
        by_cases b4 : x_in x5 8
        · rw [if_pos b4] at h
          refine x_aald (pc := 22) C ar_10 b4 (d_P_holdsEnd 13 rfl) ?_
          refine x_astore (pc := 23) (L2 := [(6, xR 2 (st.2.2.1 10 i2 x5.toNatClampNeg)), (1, xR 3 (x1)), (2, xI (x2)), (3, xR 10 (some (i2))), (4, xI (x4)), (5, xI (x5))]) C (d_P_holdsEnd 14 rfl) (by decide) rfl ?_
          refine x_aload (pc := 25) C (d_P_holdsEnd 15 rfl) 0 rfl ?_
          refine x_ifnull (pc := 27) (tgt := 42) C (d_P_holdsEnd 16 rfl) (by decide) (fun c5 => ?_) (fun i6 c5 => ?_)
          · rw [c5] at h; try rw [c5]
            dsimp only at h
            refine x_iinc (pc := 42) (v := x5 + 1) (L2 := [(5, xI (x5 + 1)), (6, xR 2 (none)), (1, xR 3 (x1)), (2, xI (x2)), (3, xR 10 (some (i2))), (4, xI (x4))]) C (d_P_holdsEnd 24 rfl) 5 rfl rfl (by decide) rfl ?_
            refine x_goto (pc := 45) (tgt := 12) C (d_P_holdsEnd 25 rfl) (by decide) ?_
            exact x_sub [2, 3, 4, 5, 0] rfl (ih _ _ _ _ _ _ h)
          · rw [c5] at h; try rw [c5]
            dsimp only at h
            refine x_aload (pc := 30) C (d_P_holdsEnd 17 rfl) 0 rfl ?_
            refine x_aload_n (pc := 32) C (d_P_holdsEnd 18 rfl) rfl 1 rfl ?_
            refine x_iload_n (pc := 33) C (d_P_holdsEnd 19 rfl) rfl 2 rfl ?_
            cases c7 : f_O_isEnd i6 (x1) x2 st with
            | none => rw [c7] at h; cases h
            | some v8 =>
              rw [c7] at h
              dsimp only at h
              refine x_callV (mc := 0) (ms := 0) (pc := 34) (bL := [xR 3 (x1), xI (x2)]) (K := []) C cs_P_54 (m_O_isEnd l c7 : x_M l _ _ _ _ (.inl (some (xI v8))) _ 0 0) (by decide) rfl (Nat.le_of_ble_eq_true rfl) (d_P_holdsEnd 20 rfl) ?_
              refine x_if_eq (pc := 37) (tgt := 42) C (d_P_holdsEnd 21 rfl) (by decide) (fun c9 => ?_) (fun c9 => ?_)
              · rw [if_pos c9] at h
                refine x_iinc (pc := 42) (v := x5 + 1) (L2 := [(5, xI (x5 + 1)), (6, xR 2 (some (i6))), (1, xR 3 (x1)), (2, xI (x2)), (3, xR 10 (some (i2))), (4, xI (x4))]) C (d_P_holdsEnd 24 rfl) 5 rfl rfl (by decide) rfl ?_
                refine x_goto (pc := 45) (tgt := 12) C (d_P_holdsEnd 25 rfl) (by decide) ?_
                exact x_sub [2, 3, 4, 5, 0] rfl (ih _ _ _ _ _ _ h)
              · rw [if_neg c9] at h
                refine x_iconst (pc := 40) (v := 1) C (by decide) (d_P_holdsEnd 22 rfl) ?_
                cases h
                exact x_iret (pc := 41) C hret rfl (Nat.zero_le _) (Nat.zero_le _) (d_P_holdsEnd 23 rfl)
        · rw [if_neg b4] at h; cases h
def f_P_holdsEnd (x0 : Nat) (x1 : Option Nat) (x2 : Int32) (st : XS) : Option Int32 :=
  match st.2.2.1 1 x0 0 with
  | none => none
  | some i11 =>
    f_P_holdsEnd_12 100 (x1) x2 (some (i11)) 8 0 st
set_option maxRecDepth 100000 in
set_option maxHeartbeats 4000000 in
theorem m_P_holdsEnd (l : Launch) {x0 : Nat} {x1 : Option Nat} {x2 : Int32} {st : XS} {r : Int32} (h : f_P_holdsEnd x0 x1 x2 st = some r) : x_M l M_P_holdsEnd rm_P_holdsEnd [xR 1 (some (x0)), xR 3 (x1), xI (x2)] st (.inl (some (xI r))) st 0 0 := by
  refine x_enter (Nat.le_of_ble_eq_true rfl) ?_
  intro p e s m below meth c D cA g args B C
  have hret := B.2.2.2.2.2.2.2.2.1
  have hmn := B.2.2.2.2.2.2.2.1
  have hex := B.2.2.2.2.2.2.2.2.2.1
  unfold f_P_holdsEnd at h
  refine x_aload_n (pc := 0) C (d_P_holdsEnd 0 rfl) rfl 0 rfl ?_
  refine x_getR (pc := 1) (t := 10) C fl_P_11 rfl rfl (d_P_holdsEnd 1 rfl) ?_
  refine x_astore_n (pc := 4) (L2 := [(3, xR 10 (st.2.2.1 1 x0 0)), (0, xR 1 (some (x0))), (1, xR 3 (x1)), (2, xI (x2))]) C (d_P_holdsEnd 2 rfl) rfl (by decide) rfl ?_
  refine x_aload_n (pc := 5) C (d_P_holdsEnd 3 rfl) rfl 0 rfl ?_
  cases c12 : st.2.2.1 1 x0 0 with
  | none => rw [c12] at h; cases h
  | some i11 =>
    rw [c12] at h
    dsimp only at h
    refine x_alen (pc := 6) (v := 8) C ar_10 rfl (d_P_holdsEnd 4 rfl) ?_
    refine x_istore (pc := 7) (L2 := [(4, xI (8)), (3, xR 10 (some (i11))), (0, xR 1 (some (x0))), (1, xR 3 (x1)), (2, xI (x2))]) C (d_P_holdsEnd 5 rfl) (by decide) rfl ?_
    refine x_iconst (pc := 9) (v := 0) C (by decide) (d_P_holdsEnd 6 rfl) ?_
    refine x_istore (pc := 10) (L2 := [(5, xI (0)), (4, xI (8)), (3, xR 10 (some (i11))), (0, xR 1 (some (x0))), (1, xR 3 (x1)), (2, xI (x2))]) C (d_P_holdsEnd 7 rfl) (by decide) rfl ?_
    exact x_sub [4, 5, 2, 1, 0] rfl (v_P_holdsEnd_12 C hret hmn hex 100 _ _ _ _ _ _ h)
def f_Int_bitCount (x0 : Int32) (st : XS) : Option Int32 :=
  some ((((((((x0 - (((x0.toUInt32 >>> ((1 : Int32).toUInt32 &&& Int32.toUInt32 31)).toInt32) &&& (1431655765 : Int32))) &&& (858993459 : Int32)) + ((((x0 - (((x0.toUInt32 >>> ((1 : Int32).toUInt32 &&& Int32.toUInt32 31)).toInt32) &&& (1431655765 : Int32))).toUInt32 >>> ((2 : Int32).toUInt32 &&& Int32.toUInt32 31)).toInt32) &&& (858993459 : Int32))) + (((((x0 - (((x0.toUInt32 >>> ((1 : Int32).toUInt32 &&& Int32.toUInt32 31)).toInt32) &&& (1431655765 : Int32))) &&& (858993459 : Int32)) + ((((x0 - (((x0.toUInt32 >>> ((1 : Int32).toUInt32 &&& Int32.toUInt32 31)).toInt32) &&& (1431655765 : Int32))).toUInt32 >>> ((2 : Int32).toUInt32 &&& Int32.toUInt32 31)).toInt32) &&& (858993459 : Int32))).toUInt32 >>> ((4 : Int32).toUInt32 &&& Int32.toUInt32 31)).toInt32)) &&& (252645135 : Int32)) + (((((((x0 - (((x0.toUInt32 >>> ((1 : Int32).toUInt32 &&& Int32.toUInt32 31)).toInt32) &&& (1431655765 : Int32))) &&& (858993459 : Int32)) + ((((x0 - (((x0.toUInt32 >>> ((1 : Int32).toUInt32 &&& Int32.toUInt32 31)).toInt32) &&& (1431655765 : Int32))).toUInt32 >>> ((2 : Int32).toUInt32 &&& Int32.toUInt32 31)).toInt32) &&& (858993459 : Int32))) + (((((x0 - (((x0.toUInt32 >>> ((1 : Int32).toUInt32 &&& Int32.toUInt32 31)).toInt32) &&& (1431655765 : Int32))) &&& (858993459 : Int32)) + ((((x0 - (((x0.toUInt32 >>> ((1 : Int32).toUInt32 &&& Int32.toUInt32 31)).toInt32) &&& (1431655765 : Int32))).toUInt32 >>> ((2 : Int32).toUInt32 &&& Int32.toUInt32 31)).toInt32) &&& (858993459 : Int32))).toUInt32 >>> ((4 : Int32).toUInt32 &&& Int32.toUInt32 31)).toInt32)) &&& (252645135 : Int32)).toUInt32 >>> ((8 : Int32).toUInt32 &&& Int32.toUInt32 31)).toInt32)) + ((((((((x0 - (((x0.toUInt32 >>> ((1 : Int32).toUInt32 &&& Int32.toUInt32 31)).toInt32) &&& (1431655765 : Int32))) &&& (858993459 : Int32)) + ((((x0 - (((x0.toUInt32 >>> ((1 : Int32).toUInt32 &&& Int32.toUInt32 31)).toInt32) &&& (1431655765 : Int32))).toUInt32 >>> ((2 : Int32).toUInt32 &&& Int32.toUInt32 31)).toInt32) &&& (858993459 : Int32))) + (((((x0 - (((x0.toUInt32 >>> ((1 : Int32).toUInt32 &&& Int32.toUInt32 31)).toInt32) &&& (1431655765 : Int32))) &&& (858993459 : Int32)) + ((((x0 - (((x0.toUInt32 >>> ((1 : Int32).toUInt32 &&& Int32.toUInt32 31)).toInt32) &&& (1431655765 : Int32))).toUInt32 >>> ((2 : Int32).toUInt32 &&& Int32.toUInt32 31)).toInt32) &&& (858993459 : Int32))).toUInt32 >>> ((4 : Int32).toUInt32 &&& Int32.toUInt32 31)).toInt32)) &&& (252645135 : Int32)) + (((((((x0 - (((x0.toUInt32 >>> ((1 : Int32).toUInt32 &&& Int32.toUInt32 31)).toInt32) &&& (1431655765 : Int32))) &&& (858993459 : Int32)) + ((((x0 - (((x0.toUInt32 >>> ((1 : Int32).toUInt32 &&& Int32.toUInt32 31)).toInt32) &&& (1431655765 : Int32))).toUInt32 >>> ((2 : Int32).toUInt32 &&& Int32.toUInt32 31)).toInt32) &&& (858993459 : Int32))) + (((((x0 - (((x0.toUInt32 >>> ((1 : Int32).toUInt32 &&& Int32.toUInt32 31)).toInt32) &&& (1431655765 : Int32))) &&& (858993459 : Int32)) + ((((x0 - (((x0.toUInt32 >>> ((1 : Int32).toUInt32 &&& Int32.toUInt32 31)).toInt32) &&& (1431655765 : Int32))).toUInt32 >>> ((2 : Int32).toUInt32 &&& Int32.toUInt32 31)).toInt32) &&& (858993459 : Int32))).toUInt32 >>> ((4 : Int32).toUInt32 &&& Int32.toUInt32 31)).toInt32)) &&& (252645135 : Int32)).toUInt32 >>> ((8 : Int32).toUInt32 &&& Int32.toUInt32 31)).toInt32)).toUInt32 >>> ((16 : Int32).toUInt32 &&& Int32.toUInt32 31)).toInt32)) &&& (63 : Int32))
set_option maxRecDepth 100000 in
set_option maxHeartbeats 4000000 in
theorem m_Int_bitCount (l : Launch) {x0 : Int32} {st : XS} {r : Int32} (h : f_Int_bitCount x0 st = some r) : x_M l M_Int_bitCount rm_Int_bitCount [xI (x0)] st (.inl (some (xI r))) st 0 0 := by
  refine x_enter (Nat.le_of_ble_eq_true rfl) ?_
  intro p e s m below meth c D cA g args B C
  have hret := B.2.2.2.2.2.2.2.2.1
  have hmn := B.2.2.2.2.2.2.2.1
  have hex := B.2.2.2.2.2.2.2.2.2.1
  unfold f_Int_bitCount at h
  refine x_iload_n (pc := 0) C (d_Int_bitCount 0 rfl) rfl 0 rfl ?_
  refine x_iload_n (pc := 1) C (d_Int_bitCount 1 rfl) rfl 0 rfl ?_
  refine x_iconst (pc := 2) (v := 1) C (by decide) (d_Int_bitCount 2 rfl) ?_
  refine x_iushr (pc := 3) C (d_Int_bitCount 3 rfl) ?_
  refine x_ldcw (pc := 4) C w_325 (d_Int_bitCount 4 rfl) ?_
  refine x_iand (pc := 7) C (d_Int_bitCount 5 rfl) ?_
  refine x_isub (pc := 8) C (d_Int_bitCount 6 rfl) ?_
  refine x_istore_n (pc := 9) (L2 := [(0, xI (x0 - (((x0.toUInt32 >>> ((1 : Int32).toUInt32 &&& Int32.toUInt32 31)).toInt32) &&& (1431655765 : Int32))))]) C (d_Int_bitCount 7 rfl) rfl (by decide) rfl ?_
  refine x_iload_n (pc := 10) C (d_Int_bitCount 8 rfl) rfl 0 rfl ?_
  refine x_ldcw (pc := 11) C w_326 (d_Int_bitCount 9 rfl) ?_
  refine x_iand (pc := 14) C (d_Int_bitCount 10 rfl) ?_
  refine x_iload_n (pc := 15) C (d_Int_bitCount 11 rfl) rfl 0 rfl ?_
  refine x_iconst (pc := 16) (v := 2) C (by decide) (d_Int_bitCount 12 rfl) ?_
  refine x_iushr (pc := 17) C (d_Int_bitCount 13 rfl) ?_
  refine x_ldcw (pc := 18) C w_326 (d_Int_bitCount 14 rfl) ?_
  refine x_iand (pc := 21) C (d_Int_bitCount 15 rfl) ?_
  refine x_iadd (pc := 22) C (d_Int_bitCount 16 rfl) ?_
  refine x_istore_n (pc := 23) (L2 := [(0, xI (((x0 - (((x0.toUInt32 >>> ((1 : Int32).toUInt32 &&& Int32.toUInt32 31)).toInt32) &&& (1431655765 : Int32))) &&& (858993459 : Int32)) + ((((x0 - (((x0.toUInt32 >>> ((1 : Int32).toUInt32 &&& Int32.toUInt32 31)).toInt32) &&& (1431655765 : Int32))).toUInt32 >>> ((2 : Int32).toUInt32 &&& Int32.toUInt32 31)).toInt32) &&& (858993459 : Int32))))]) C (d_Int_bitCount 17 rfl) rfl (by decide) rfl ?_
  refine x_iload_n (pc := 24) C (d_Int_bitCount 18 rfl) rfl 0 rfl ?_
  refine x_iload_n (pc := 25) C (d_Int_bitCount 19 rfl) rfl 0 rfl ?_
  refine x_iconst (pc := 26) (v := 4) C (by decide) (d_Int_bitCount 20 rfl) ?_
  refine x_iushr (pc := 27) C (d_Int_bitCount 21 rfl) ?_
  refine x_iadd (pc := 28) C (d_Int_bitCount 22 rfl) ?_
  refine x_ldcw (pc := 29) C w_327 (d_Int_bitCount 23 rfl) ?_
  refine x_iand (pc := 32) C (d_Int_bitCount 24 rfl) ?_
  refine x_istore_n (pc := 33) (L2 := [(0, xI (((((x0 - (((x0.toUInt32 >>> ((1 : Int32).toUInt32 &&& Int32.toUInt32 31)).toInt32) &&& (1431655765 : Int32))) &&& (858993459 : Int32)) + ((((x0 - (((x0.toUInt32 >>> ((1 : Int32).toUInt32 &&& Int32.toUInt32 31)).toInt32) &&& (1431655765 : Int32))).toUInt32 >>> ((2 : Int32).toUInt32 &&& Int32.toUInt32 31)).toInt32) &&& (858993459 : Int32))) + (((((x0 - (((x0.toUInt32 >>> ((1 : Int32).toUInt32 &&& Int32.toUInt32 31)).toInt32) &&& (1431655765 : Int32))) &&& (858993459 : Int32)) + ((((x0 - (((x0.toUInt32 >>> ((1 : Int32).toUInt32 &&& Int32.toUInt32 31)).toInt32) &&& (1431655765 : Int32))).toUInt32 >>> ((2 : Int32).toUInt32 &&& Int32.toUInt32 31)).toInt32) &&& (858993459 : Int32))).toUInt32 >>> ((4 : Int32).toUInt32 &&& Int32.toUInt32 31)).toInt32)) &&& (252645135 : Int32)))]) C (d_Int_bitCount 25 rfl) rfl (by decide) rfl ?_
  refine x_iload_n (pc := 34) C (d_Int_bitCount 26 rfl) rfl 0 rfl ?_
  refine x_iload_n (pc := 35) C (d_Int_bitCount 27 rfl) rfl 0 rfl ?_
  refine x_bipush (pc := 36) (v := 8) C (by decide) (d_Int_bitCount 28 rfl) ?_
  refine x_iushr (pc := 38) C (d_Int_bitCount 29 rfl) ?_
  refine x_iadd (pc := 39) C (d_Int_bitCount 30 rfl) ?_
  refine x_istore_n (pc := 40) (L2 := [(0, xI ((((((x0 - (((x0.toUInt32 >>> ((1 : Int32).toUInt32 &&& Int32.toUInt32 31)).toInt32) &&& (1431655765 : Int32))) &&& (858993459 : Int32)) + ((((x0 - (((x0.toUInt32 >>> ((1 : Int32).toUInt32 &&& Int32.toUInt32 31)).toInt32) &&& (1431655765 : Int32))).toUInt32 >>> ((2 : Int32).toUInt32 &&& Int32.toUInt32 31)).toInt32) &&& (858993459 : Int32))) + (((((x0 - (((x0.toUInt32 >>> ((1 : Int32).toUInt32 &&& Int32.toUInt32 31)).toInt32) &&& (1431655765 : Int32))) &&& (858993459 : Int32)) + ((((x0 - (((x0.toUInt32 >>> ((1 : Int32).toUInt32 &&& Int32.toUInt32 31)).toInt32) &&& (1431655765 : Int32))).toUInt32 >>> ((2 : Int32).toUInt32 &&& Int32.toUInt32 31)).toInt32) &&& (858993459 : Int32))).toUInt32 >>> ((4 : Int32).toUInt32 &&& Int32.toUInt32 31)).toInt32)) &&& (252645135 : Int32)) + (((((((x0 - (((x0.toUInt32 >>> ((1 : Int32).toUInt32 &&& Int32.toUInt32 31)).toInt32) &&& (1431655765 : Int32))) &&& (858993459 : Int32)) + ((((x0 - (((x0.toUInt32 >>> ((1 : Int32).toUInt32 &&& Int32.toUInt32 31)).toInt32) &&& (1431655765 : Int32))).toUInt32 >>> ((2 : Int32).toUInt32 &&& Int32.toUInt32 31)).toInt32) &&& (858993459 : Int32))) + (((((x0 - (((x0.toUInt32 >>> ((1 : Int32).toUInt32 &&& Int32.toUInt32 31)).toInt32) &&& (1431655765 : Int32))) &&& (858993459 : Int32)) + ((((x0 - (((x0.toUInt32 >>> ((1 : Int32).toUInt32 &&& Int32.toUInt32 31)).toInt32) &&& (1431655765 : Int32))).toUInt32 >>> ((2 : Int32).toUInt32 &&& Int32.toUInt32 31)).toInt32) &&& (858993459 : Int32))).toUInt32 >>> ((4 : Int32).toUInt32 &&& Int32.toUInt32 31)).toInt32)) &&& (252645135 : Int32)).toUInt32 >>> ((8 : Int32).toUInt32 &&& Int32.toUInt32 31)).toInt32)))]) C (d_Int_bitCount 31 rfl) rfl (by decide) rfl ?_
  refine x_iload_n (pc := 41) C (d_Int_bitCount 32 rfl) rfl 0 rfl ?_
  refine x_iload_n (pc := 42) C (d_Int_bitCount 33 rfl) rfl 0 rfl ?_
  refine x_bipush (pc := 43) (v := 16) C (by decide) (d_Int_bitCount 34 rfl) ?_
  refine x_iushr (pc := 45) C (d_Int_bitCount 35 rfl) ?_
  refine x_iadd (pc := 46) C (d_Int_bitCount 36 rfl) ?_
  refine x_istore_n (pc := 47) (L2 := [(0, xI (((((((x0 - (((x0.toUInt32 >>> ((1 : Int32).toUInt32 &&& Int32.toUInt32 31)).toInt32) &&& (1431655765 : Int32))) &&& (858993459 : Int32)) + ((((x0 - (((x0.toUInt32 >>> ((1 : Int32).toUInt32 &&& Int32.toUInt32 31)).toInt32) &&& (1431655765 : Int32))).toUInt32 >>> ((2 : Int32).toUInt32 &&& Int32.toUInt32 31)).toInt32) &&& (858993459 : Int32))) + (((((x0 - (((x0.toUInt32 >>> ((1 : Int32).toUInt32 &&& Int32.toUInt32 31)).toInt32) &&& (1431655765 : Int32))) &&& (858993459 : Int32)) + ((((x0 - (((x0.toUInt32 >>> ((1 : Int32).toUInt32 &&& Int32.toUInt32 31)).toInt32) &&& (1431655765 : Int32))).toUInt32 >>> ((2 : Int32).toUInt32 &&& Int32.toUInt32 31)).toInt32) &&& (858993459 : Int32))).toUInt32 >>> ((4 : Int32).toUInt32 &&& Int32.toUInt32 31)).toInt32)) &&& (252645135 : Int32)) + (((((((x0 - (((x0.toUInt32 >>> ((1 : Int32).toUInt32 &&& Int32.toUInt32 31)).toInt32) &&& (1431655765 : Int32))) &&& (858993459 : Int32)) + ((((x0 - (((x0.toUInt32 >>> ((1 : Int32).toUInt32 &&& Int32.toUInt32 31)).toInt32) &&& (1431655765 : Int32))).toUInt32 >>> ((2 : Int32).toUInt32 &&& Int32.toUInt32 31)).toInt32) &&& (858993459 : Int32))) + (((((x0 - (((x0.toUInt32 >>> ((1 : Int32).toUInt32 &&& Int32.toUInt32 31)).toInt32) &&& (1431655765 : Int32))) &&& (858993459 : Int32)) + ((((x0 - (((x0.toUInt32 >>> ((1 : Int32).toUInt32 &&& Int32.toUInt32 31)).toInt32) &&& (1431655765 : Int32))).toUInt32 >>> ((2 : Int32).toUInt32 &&& Int32.toUInt32 31)).toInt32) &&& (858993459 : Int32))).toUInt32 >>> ((4 : Int32).toUInt32 &&& Int32.toUInt32 31)).toInt32)) &&& (252645135 : Int32)).toUInt32 >>> ((8 : Int32).toUInt32 &&& Int32.toUInt32 31)).toInt32)) + ((((((((x0 - (((x0.toUInt32 >>> ((1 : Int32).toUInt32 &&& Int32.toUInt32 31)).toInt32) &&& (1431655765 : Int32))) &&& (858993459 : Int32)) + ((((x0 - (((x0.toUInt32 >>> ((1 : Int32).toUInt32 &&& Int32.toUInt32 31)).toInt32) &&& (1431655765 : Int32))).toUInt32 >>> ((2 : Int32).toUInt32 &&& Int32.toUInt32 31)).toInt32) &&& (858993459 : Int32))) + (((((x0 - (((x0.toUInt32 >>> ((1 : Int32).toUInt32 &&& Int32.toUInt32 31)).toInt32) &&& (1431655765 : Int32))) &&& (858993459 : Int32)) + ((((x0 - (((x0.toUInt32 >>> ((1 : Int32).toUInt32 &&& Int32.toUInt32 31)).toInt32) &&& (1431655765 : Int32))).toUInt32 >>> ((2 : Int32).toUInt32 &&& Int32.toUInt32 31)).toInt32) &&& (858993459 : Int32))).toUInt32 >>> ((4 : Int32).toUInt32 &&& Int32.toUInt32 31)).toInt32)) &&& (252645135 : Int32)) + (((((((x0 - (((x0.toUInt32 >>> ((1 : Int32).toUInt32 &&& Int32.toUInt32 31)).toInt32) &&& (1431655765 : Int32))) &&& (858993459 : Int32)) + ((((x0 - (((x0.toUInt32 >>> ((1 : Int32).toUInt32 &&& Int32.toUInt32 31)).toInt32) &&& (1431655765 : Int32))).toUInt32 >>> ((2 : Int32).toUInt32 &&& Int32.toUInt32 31)).toInt32) &&& (858993459 : Int32))) + (((((x0 - (((x0.toUInt32 >>> ((1 : Int32).toUInt32 &&& Int32.toUInt32 31)).toInt32) &&& (1431655765 : Int32))) &&& (858993459 : Int32)) + ((((x0 - (((x0.toUInt32 >>> ((1 : Int32).toUInt32 &&& Int32.toUInt32 31)).toInt32) &&& (1431655765 : Int32))).toUInt32 >>> ((2 : Int32).toUInt32 &&& Int32.toUInt32 31)).toInt32) &&& (858993459 : Int32))).toUInt32 >>> ((4 : Int32).toUInt32 &&& Int32.toUInt32 31)).toInt32)) &&& (252645135 : Int32)).toUInt32 >>> ((8 : Int32).toUInt32 &&& Int32.toUInt32 31)).toInt32)).toUInt32 >>> ((16 : Int32).toUInt32 &&& Int32.toUInt32 31)).toInt32)))]) C (d_Int_bitCount 37 rfl) rfl (by decide) rfl ?_
  refine x_iload_n (pc := 48) C (d_Int_bitCount 38 rfl) rfl 0 rfl ?_
  refine x_bipush (pc := 49) (v := 63) C (by decide) (d_Int_bitCount 39 rfl) ?_
  refine x_iand (pc := 51) C (d_Int_bitCount 40 rfl) ?_
  cases h
  exact x_iret (pc := 52) C hret rfl (Nat.zero_le _) (Nat.zero_le _) (d_Int_bitCount 41 rfl)
def f_P_beAbsent_2  : Nat → Nat → Int32 → XS → Option (Unit × XS)
  | 0, _, _, _ => none
  | n + 1, x0, x1, st =>
    if 8 ≤ x1 then
      some ((), xsI st 1 x0 1 0)
    else
      match f_P_release x0 x1 st with
      | none => none
      | some (_, st4) =>
        f_P_beAbsent_2 n x0 (x1 + 1) st4
set_option maxRecDepth 100000 in
set_option maxHeartbeats 4000000 in
theorem v_P_beAbsent_2 {p : Program} {l : Launch} {e : Env} {s : State} {m : MethodId} {args : Array Value} {below : List Frame} {meth : Method} {c : Code} {D : va_G} {cA : Nat → ClassId} {g0 : Nat → Nat → Nat} {n0 : Nat → Nat} {r : Unit} {st2 : XS} (C : x_C p e rm_P_beAbsent s m args meth c D cA (x_A g0 n0 s.heap.size) M_P_beAbsent.2.1 M_P_beAbsent.1 M_P_beAbsent.2.2.1) (hret : meth.sig.returnType = M_P_beAbsent.2.2.2.1) (hmn : meth.name = M_P_beAbsent.2.2.2.2.2) (hex : c.exceptionTable.toList.map (fun h => (h.startPc, h.endPc, h.handlerPc, h.catchType)) = M_P_beAbsent.2.2.2.2.1)  : ∀ (n : Nat) (x0 : Nat) (x1 : Int32) (st : XS), f_P_beAbsent_2 n x0 x1 st = some (r, st2) → x_V p l e rm_P_beAbsent s m args below meth c D cA (x_A g0 n0 s.heap.size) M_P_beAbsent.2.2.1 g0 n0 (x_MQ D cA g0 n0 below s 0 0 (.inl (none)) st2) 2 [(0, xR 1 (some (x0))), (1, xI (x1))] [] st 0 0 := by
  intro n
  induction n with
  | zero => intro x0 x1 st h; cases h
  | succ n ih =>
    intro x0 x1 st h
    rw [f_P_beAbsent_2.eq_def] at h
    dsimp only at h
    refine x_iload_n (pc := 2) C (d_P_beAbsent 2 rfl) rfl 1 rfl ?_
    refine x_bipush (pc := 3) (v := 8) C (by decide) (d_P_beAbsent 3 rfl) ?_
    refine x_icmp_ge (pc := 5) (tgt := 19) C (d_P_beAbsent 4 rfl) (by decide) (fun c1 => ?_) (fun c1 => ?_)
    · rw [if_pos c1] at h
      refine x_aload_n (pc := 19) C (d_P_beAbsent 10 rfl) rfl 0 rfl ?_
      refine x_iconst (pc := 20) (v := 0) C (by decide) (d_P_beAbsent 11 rfl) ?_
      refine x_putI (pc := 21) C fl_P_17 (pf_P_17 _) rfl ty_1_1 (d_P_beAbsent 12 rfl) ?_
      cases h
      exact x_vret (pc := 24) C hret (Nat.zero_le _) (Nat.zero_le _) (d_P_beAbsent 13 rfl)
    · rw [if_neg c1] at h
      refine x_aload_n (pc := 8) C (d_P_beAbsent 5 rfl) rfl 0 rfl ?_
      refine x_iload_n (pc := 9) C (d_P_beAbsent 6 rfl) rfl 1 rfl ?_
      cases c2 : f_P_release x0 x1 st with
      | none => rw [c2] at h; cases h
      | some w5 =>
        obtain ⟨v3, st4⟩ := w5
        rw [c2] at h
        dsimp only at h
        refine x_callV (mc := 0) (ms := 0) (pc := 10) (bL := [xI (x1)]) (K := []) C cs_P_34 (m_P_release l c2 : x_M l _ _ _ _ (.inl none) _ 0 0) (by decide) rfl (Nat.le_of_ble_eq_true rfl) (d_P_beAbsent 7 rfl) ?_
        refine x_iinc (pc := 13) (v := x1 + 1) (L2 := [(1, xI (x1 + 1)), (0, xR 1 (some (x0)))]) C (d_P_beAbsent 8 rfl) 1 rfl rfl (by decide) rfl ?_
        refine x_goto (pc := 16) (tgt := 2) C (d_P_beAbsent 9 rfl) (by decide) ?_
        exact x_sub [1, 0] rfl (ih _ _ _ h)
def f_P_beAbsent (x0 : Nat) (st : XS) : Option (Unit × XS) :=
  f_P_beAbsent_2 100 x0 0 st
set_option maxRecDepth 100000 in
set_option maxHeartbeats 4000000 in
theorem m_P_beAbsent (l : Launch) {x0 : Nat} {st : XS} {r : Unit} {st2 : XS} (h : f_P_beAbsent x0 st = some (r, st2)) : x_M l M_P_beAbsent rm_P_beAbsent [xR 1 (some (x0))] st (.inl (none)) st2 0 0 := by
  refine x_enter (Nat.le_of_ble_eq_true rfl) ?_
  intro p e s m below meth c D cA g args B C
  have hret := B.2.2.2.2.2.2.2.2.1
  have hmn := B.2.2.2.2.2.2.2.1
  have hex := B.2.2.2.2.2.2.2.2.2.1
  unfold f_P_beAbsent at h
  refine x_iconst (pc := 0) (v := 0) C (by decide) (d_P_beAbsent 0 rfl) ?_
  refine x_istore_n (pc := 1) (L2 := [(1, xI (0)), (0, xR 1 (some (x0)))]) C (d_P_beAbsent 1 rfl) rfl (by decide) rfl ?_
  exact x_sub [1, 0] rfl (v_P_beAbsent_2 C hret hmn hex 100 _ _ _ h)
def f_Math_max (x0 : Int32) (x1 : Int32) (st : XS) : Option Int32 :=
  if x0 < x1 then
    some (x1)
  else
    some (x0)
set_option maxRecDepth 100000 in
set_option maxHeartbeats 4000000 in
theorem m_Math_max (l : Launch) {x0 : Int32} {x1 : Int32} {st : XS} {r : Int32} (h : f_Math_max x0 x1 st = some r) : x_M l M_Math_max rm_Math_max [xI (x0), xI (x1)] st (.inl (some (xI r))) st 0 0 := by
  refine x_enter (Nat.le_of_ble_eq_true rfl) ?_
  intro p e s m below meth c D cA g args B C
  have hret := B.2.2.2.2.2.2.2.2.1
  have hmn := B.2.2.2.2.2.2.2.1
  have hex := B.2.2.2.2.2.2.2.2.2.1
  unfold f_Math_max at h
  refine x_iload_n (pc := 0) C (d_Math_max 0 rfl) rfl 0 rfl ?_
  refine x_iload_n (pc := 1) C (d_Math_max 1 rfl) rfl 1 rfl ?_
  refine x_icmp_lt (pc := 2) (tgt := 9) C (d_Math_max 2 rfl) (by decide) (fun c1 => ?_) (fun c1 => ?_)
  · rw [if_pos c1] at h
    refine x_iload_n (pc := 9) C (d_Math_max 5 rfl) rfl 1 rfl ?_
    cases h
    exact x_iret (pc := 10) C hret rfl (Nat.zero_le _) (Nat.zero_le _) (d_Math_max 6 rfl)
  · rw [if_neg c1] at h
    refine x_iload_n (pc := 5) C (d_Math_max 3 rfl) rfl 0 rfl ?_
    refine x_goto (pc := 6) (tgt := 10) C (d_Math_max 4 rfl) (by decide) ?_
    cases h
    exact x_iret (pc := 10) C hret rfl (Nat.zero_le _) (Nat.zero_le _) (d_Math_max 6 rfl)
def f_P_freeFrom_6  : Nat → Nat → Int32 → XS → Option Int32
  | 0, _, _, _ => none
  | n + 1, x0, x2, st =>
    if 8 ≤ x2 then
      some ((-1))
    else
      match st.2.2.1 1 x0 0 with
      | none => none
      | some i2 =>
        if x_in x2 8 then
          match st.2.2.1 10 i2 x2.toNatClampNeg with
          | none =>
            some (x2)
          | some i6 =>
            f_P_freeFrom_6 n x0 (x2 + 1) st
        else none
set_option maxRecDepth 100000 in
set_option maxHeartbeats 4000000 in
theorem v_P_freeFrom_6 {p : Program} {l : Launch} {e : Env} {s : State} {m : MethodId} {args : Array Value} {below : List Frame} {meth : Method} {c : Code} {D : va_G} {cA : Nat → ClassId} {g0 : Nat → Nat → Nat} {n0 : Nat → Nat} {r : Int32} (C : x_C p e rm_P_freeFrom s m args meth c D cA (x_A g0 n0 s.heap.size) M_P_freeFrom.2.1 M_P_freeFrom.1 M_P_freeFrom.2.2.1) (hret : meth.sig.returnType = M_P_freeFrom.2.2.2.1) (hmn : meth.name = M_P_freeFrom.2.2.2.2.2) (hex : c.exceptionTable.toList.map (fun h => (h.startPc, h.endPc, h.handlerPc, h.catchType)) = M_P_freeFrom.2.2.2.2.1)  : ∀ (n : Nat) (x0 : Nat) (x2 : Int32) (st : XS), f_P_freeFrom_6 n x0 x2 st = some r → x_V p l e rm_P_freeFrom s m args below meth c D cA (x_A g0 n0 s.heap.size) M_P_freeFrom.2.2.1 g0 n0 (x_MQ D cA g0 n0 below s 0 0 (.inl (some (xI r))) st) 6 [(0, xR 1 (some (x0))), (2, xI (x2))] [] st 0 0 := by
  intro n
  induction n with
  | zero => intro x0 x2 st h; cases h
  | succ n ih =>
    intro x0 x2 st h
    rw [f_P_freeFrom_6.eq_def] at h
    dsimp only at h
    refine x_iload_n (pc := 6) C (d_P_freeFrom 4 rfl) rfl 1 rfl ?_
    refine x_bipush (pc := 7) (v := 8) C (by decide) (d_P_freeFrom 5 rfl) ?_
    refine x_icmp_ge (pc := 9) (tgt := 29) C (d_P_freeFrom 6 rfl) (by decide) (fun c1 => ?_) (fun c1 => ?_)
    · rw [if_pos c1] at h
      refine x_iconst (pc := 29) (v := (-1)) C (by decide) (d_P_freeFrom 16 rfl) ?_
      cases h
      exact x_iret (pc := 30) C hret rfl (Nat.zero_le _) (Nat.zero_le _) (d_P_freeFrom 17 rfl)
    · rw [if_neg c1] at h
      refine x_aload_n (pc := 12) C (d_P_freeFrom 7 rfl) rfl 0 rfl ?_
      refine x_getR (pc := 13) (t := 10) C fl_P_11 rfl rfl (d_P_freeFrom 8 rfl) ?_
      refine x_iload_n (pc := 16) C (d_P_freeFrom 9 rfl) rfl 1 rfl ?_
      cases c3 : st.2.2.1 1 x0 0 with
      | none => rw [c3] at h; cases h
      | some i2 =>
        rw [c3] at h
        dsimp only at h
        by_cases b4 : x_in x2 8
        · rw [if_pos b4] at h
          refine x_aald (pc := 17) C ar_10 b4 (d_P_freeFrom 10 rfl) ?_
          refine x_ifnonnull (pc := 18) (tgt := 23) C (d_P_freeFrom 11 rfl) (by decide) (fun i6 c5 => ?_) (fun c5 => ?_)
          · rw [c5] at h; try rw [c5]
            dsimp only at h
            refine x_iinc (pc := 23) (v := x2 + 1) (L2 := [(2, xI (x2 + 1)), (0, xR 1 (some (x0)))]) C (d_P_freeFrom 14 rfl) 1 rfl rfl (by decide) rfl ?_
            refine x_goto (pc := 26) (tgt := 6) C (d_P_freeFrom 15 rfl) (by decide) ?_
            exact x_sub [1, 0] rfl (ih _ _ _ h)
          · rw [c5] at h; try rw [c5]
            dsimp only at h
            refine x_iload_n (pc := 21) C (d_P_freeFrom 12 rfl) rfl 1 rfl ?_
            cases h
            exact x_iret (pc := 22) C hret rfl (Nat.zero_le _) (Nat.zero_le _) (d_P_freeFrom 13 rfl)
        · rw [if_neg b4] at h; cases h
def f_P_freeFrom (x0 : Nat) (x1 : Int32) (st : XS) : Option Int32 :=
  match f_Math_max 0 x1 st with
  | none => none
  | some v8 =>
    f_P_freeFrom_6 100 x0 v8 st
set_option maxRecDepth 100000 in
set_option maxHeartbeats 4000000 in
theorem m_P_freeFrom (l : Launch) {x0 : Nat} {x1 : Int32} {st : XS} {r : Int32} (h : f_P_freeFrom x0 x1 st = some r) : x_M l M_P_freeFrom rm_P_freeFrom [xR 1 (some (x0)), xI (x1)] st (.inl (some (xI r))) st 0 0 := by
  refine x_enter (Nat.le_of_ble_eq_true rfl) ?_
  intro p e s m below meth c D cA g args B C
  have hret := B.2.2.2.2.2.2.2.2.1
  have hmn := B.2.2.2.2.2.2.2.1
  have hex := B.2.2.2.2.2.2.2.2.2.1
  unfold f_P_freeFrom at h
  refine x_iconst (pc := 0) (v := 0) C (by decide) (d_P_freeFrom 0 rfl) ?_
  refine x_iload_n (pc := 1) C (d_P_freeFrom 1 rfl) rfl 1 rfl ?_
  cases c7 : f_Math_max 0 x1 st with
  | none => rw [c7] at h; cases h
  | some v8 =>
    rw [c7] at h
    dsimp only at h
    refine x_callS (mc := 0) (ms := 0) (pc := 2) (aL := [xI (0), xI (x1)]) (K := []) C cs_P_38 (m_Math_max l c7 : x_M l _ _ _ _ (.inl (some (xI v8))) _ 0 0) (by decide) rfl (Nat.le_of_ble_eq_true rfl) (d_P_freeFrom 2 rfl) ?_
    refine x_istore_n (pc := 5) (L2 := [(2, xI (v8)), (0, xR 1 (some (x0))), (1, xI (x1))]) C (d_P_freeFrom 3 rfl) rfl (by decide) rfl ?_
    exact x_sub [1, 0] rfl (v_P_freeFrom_6 C hret hmn hex 100 _ _ _ h)
def f_P_beWaiting (x0 : Nat) (x1 : Int32) (x2 : Int32) (x3 : Int32) (st : XS) : Option (Unit × XS) :=
  some ((), xsI (xsI (xsI st 1 x0 1 x1) 1 x0 2 x2) 1 x0 3 x3)
set_option maxRecDepth 100000 in
set_option maxHeartbeats 4000000 in
theorem m_P_beWaiting (l : Launch) {x0 : Nat} {x1 : Int32} {x2 : Int32} {x3 : Int32} {st : XS} {r : Unit} {st2 : XS} (h : f_P_beWaiting x0 x1 x2 x3 st = some (r, st2)) : x_M l M_P_beWaiting rm_P_beWaiting [xR 1 (some (x0)), xI (x1), xI (x2), xI (x3)] st (.inl (none)) st2 0 0 := by
  refine x_enter (Nat.le_of_ble_eq_true rfl) ?_
  intro p e s m below meth c D cA g args B C
  have hret := B.2.2.2.2.2.2.2.2.1
  have hmn := B.2.2.2.2.2.2.2.1
  have hex := B.2.2.2.2.2.2.2.2.2.1
  unfold f_P_beWaiting at h
  refine x_aload_n (pc := 0) C (d_P_beWaiting 0 rfl) rfl 0 rfl ?_
  refine x_iload_n (pc := 1) C (d_P_beWaiting 1 rfl) rfl 1 rfl ?_
  refine x_putI (pc := 2) C fl_P_17 (pf_P_17 _) rfl ty_1_1 (d_P_beWaiting 2 rfl) ?_
  refine x_aload_n (pc := 5) C (d_P_beWaiting 3 rfl) rfl 0 rfl ?_
  refine x_iload_n (pc := 6) C (d_P_beWaiting 4 rfl) rfl 2 rfl ?_
  refine x_putI (pc := 7) C fl_P_21 (pf_P_21 _) rfl ty_1_2 (d_P_beWaiting 5 rfl) ?_
  refine x_aload_n (pc := 10) C (d_P_beWaiting 6 rfl) rfl 0 rfl ?_
  refine x_iload_n (pc := 11) C (d_P_beWaiting 7 rfl) rfl 3 rfl ?_
  refine x_putI (pc := 12) C fl_P_24 (pf_P_24 _) rfl ty_1_3 (d_P_beWaiting 8 rfl) ?_
  cases h
  exact x_vret (pc := 15) C hret (Nat.zero_le _) (Nat.zero_le _) (d_P_beWaiting 9 rfl)
def f_Math_min (x0 : Int32) (x1 : Int32) (st : XS) : Option Int32 :=
  if x1 < x0 then
    some (x1)
  else
    some (x0)
set_option maxRecDepth 100000 in
set_option maxHeartbeats 4000000 in
theorem m_Math_min (l : Launch) {x0 : Int32} {x1 : Int32} {st : XS} {r : Int32} (h : f_Math_min x0 x1 st = some r) : x_M l M_Math_min rm_Math_min [xI (x0), xI (x1)] st (.inl (some (xI r))) st 0 0 := by
  refine x_enter (Nat.le_of_ble_eq_true rfl) ?_
  intro p e s m below meth c D cA g args B C
  have hret := B.2.2.2.2.2.2.2.2.1
  have hmn := B.2.2.2.2.2.2.2.1
  have hex := B.2.2.2.2.2.2.2.2.2.1
  unfold f_Math_min at h
  refine x_iload_n (pc := 0) C (d_Math_min 0 rfl) rfl 0 rfl ?_
  refine x_iload_n (pc := 1) C (d_Math_min 1 rfl) rfl 1 rfl ?_
  refine x_icmp_gt (pc := 2) (tgt := 9) C (d_Math_min 2 rfl) (by decide) (fun c1 => ?_) (fun c1 => ?_)
  · rw [if_pos c1] at h
    refine x_iload_n (pc := 9) C (d_Math_min 5 rfl) rfl 1 rfl ?_
    cases h
    exact x_iret (pc := 10) C hret rfl (Nat.zero_le _) (Nat.zero_le _) (d_Math_min 6 rfl)
  · rw [if_neg c1] at h
    refine x_iload_n (pc := 5) C (d_Math_min 3 rfl) rfl 0 rfl ?_
    refine x_goto (pc := 6) (tgt := 10) C (d_Math_min 4 rfl) (by decide) ?_
    cases h
    exact x_iret (pc := 10) C hret rfl (Nat.zero_le _) (Nat.zero_le _) (d_Math_min 6 rfl)
def f_B_takeFirst (x0 : Nat) (st : XS) : Option (Int32 × XS) :=
  match st.2.2.1 5 x0 0 with
  | none => none
  | some i1 =>
    if x_in ((st.1 5 x0 1) &&& (63 : Int32)) 64 then
      some (st.1 12 i1 ((st.1 5 x0 1) &&& (63 : Int32)).toNatClampNeg, xsI (xsI st 5 x0 1 (((st.1 5 x0 1) + (1 : Int32)) &&& (63 : Int32))) 5 x0 2 (((xsI st 5 x0 1 (((st.1 5 x0 1) + (1 : Int32)) &&& (63 : Int32))).1 5 x0 2) - (1 : Int32)))
    else none
set_option maxRecDepth 100000 in
set_option maxHeartbeats 4000000 in
theorem m_B_takeFirst (l : Launch) {x0 : Nat} {st : XS} {r : Int32} {st2 : XS} (h : f_B_takeFirst x0 st = some (r, st2)) : x_M l M_B_takeFirst rm_B_takeFirst [xR 5 (some (x0))] st (.inl (some (xI r))) st2 0 0 := by
  refine x_enter (Nat.le_of_ble_eq_true rfl) ?_
  intro p e s m below meth c D cA g args B C
  have hret := B.2.2.2.2.2.2.2.2.1
  have hmn := B.2.2.2.2.2.2.2.1
  have hex := B.2.2.2.2.2.2.2.2.2.1
  unfold f_B_takeFirst at h
  refine x_aload_n (pc := 0) C (d_B_takeFirst 0 rfl) rfl 0 rfl ?_
  refine x_getR (pc := 1) (t := 12) C fl_B_9 rfl rfl (d_B_takeFirst 1 rfl) ?_
  refine x_aload_n (pc := 4) C (d_B_takeFirst 2 rfl) rfl 0 rfl ?_
  refine x_getI (pc := 5) C fl_B_13 rfl (d_B_takeFirst 3 rfl) ?_
  refine x_bipush (pc := 8) (v := 63) C (by decide) (d_B_takeFirst 4 rfl) ?_
  refine x_iand (pc := 10) C (d_B_takeFirst 5 rfl) ?_
  cases c2 : st.2.2.1 5 x0 0 with
  | none => rw [c2] at h; cases h
  | some i1 =>
    rw [c2] at h
    dsimp only at h
    by_cases b3 : x_in ((st.1 5 x0 1) &&& (63 : Int32)) 64
    · rw [if_pos b3] at h
      refine x_iald (pc := 11) C ar_12 b3 (d_B_takeFirst 6 rfl) ?_
      refine x_istore_n (pc := 12) (L2 := [(1, xI (st.1 12 i1 ((st.1 5 x0 1) &&& (63 : Int32)).toNatClampNeg)), (0, xR 5 (some (x0)))]) C (d_B_takeFirst 7 rfl) rfl (by decide) rfl ?_
      refine x_aload_n (pc := 13) C (d_B_takeFirst 8 rfl) rfl 1 rfl ?_
      refine x_aload_n (pc := 14) C (d_B_takeFirst 9 rfl) rfl 1 rfl ?_
      refine x_getI (pc := 15) C fl_B_13 rfl (d_B_takeFirst 10 rfl) ?_
      refine x_iconst (pc := 18) (v := 1) C (by decide) (d_B_takeFirst 11 rfl) ?_
      refine x_iadd (pc := 19) C (d_B_takeFirst 12 rfl) ?_
      refine x_bipush (pc := 20) (v := 63) C (by decide) (d_B_takeFirst 13 rfl) ?_
      refine x_iand (pc := 22) C (d_B_takeFirst 14 rfl) ?_
      refine x_putI (pc := 23) C fl_B_13 (pf_B_13 _) rfl ty_5_1 (d_B_takeFirst 15 rfl) ?_
      refine x_aload_n (pc := 26) C (d_B_takeFirst 16 rfl) rfl 1 rfl ?_
      refine x_dup (pc := 27) C rfl (d_B_takeFirst 17 rfl) ?_
      refine x_getI (pc := 28) C fl_B_17 rfl (d_B_takeFirst 18 rfl) ?_
      refine x_iconst (pc := 31) (v := 1) C (by decide) (d_B_takeFirst 19 rfl) ?_
      refine x_isub (pc := 32) C (d_B_takeFirst 20 rfl) ?_
      refine x_putI (pc := 33) C fl_B_17 (pf_B_17 _) rfl ty_5_2 (d_B_takeFirst 21 rfl) ?_
      refine x_iload_n (pc := 36) C (d_B_takeFirst 22 rfl) rfl 0 rfl ?_
      cases h
      exact x_iret (pc := 37) C hret rfl (Nat.zero_le _) (Nat.zero_le _) (d_B_takeFirst 23 rfl)
    · rw [if_neg b3] at h; cases h
def f_P_getByte (x0 : Nat) (x1 : Int32) (st : XS) : Option (Unit × XS) :=
  some ((), xsJ st 1 x0 4 (((st.2.1 1 x0 4) <<< ((8 : Int32).toInt64 &&& 63)) ||| (x1.toInt64)))
set_option maxRecDepth 100000 in
set_option maxHeartbeats 4000000 in
theorem m_P_getByte (l : Launch) {x0 : Nat} {x1 : Int32} {st : XS} {r : Unit} {st2 : XS} (h : f_P_getByte x0 x1 st = some (r, st2)) : x_M l M_P_getByte rm_P_getByte [xR 1 (some (x0)), xI (x1)] st (.inl (none)) st2 0 0 := by
  refine x_enter (Nat.le_of_ble_eq_true rfl) ?_
  intro p e s m below meth c D cA g args B C
  have hret := B.2.2.2.2.2.2.2.2.1
  have hmn := B.2.2.2.2.2.2.2.1
  have hex := B.2.2.2.2.2.2.2.2.2.1
  unfold f_P_getByte at h
  refine x_aload_n (pc := 0) C (d_P_getByte 0 rfl) rfl 0 rfl ?_
  refine x_aload_n (pc := 1) C (d_P_getByte 1 rfl) rfl 0 rfl ?_
  refine x_getJ (pc := 2) C fl_P_27 rfl (d_P_getByte 2 rfl) ?_
  refine x_bipush (pc := 5) (v := 8) C (by decide) (d_P_getByte 3 rfl) ?_
  refine x_lshl (pc := 7) C (d_P_getByte 4 rfl) ?_
  refine x_iload_n (pc := 8) C (d_P_getByte 5 rfl) rfl 1 rfl ?_
  refine x_i2l (pc := 9) C (d_P_getByte 6 rfl) ?_
  refine x_lor (pc := 10) C (d_P_getByte 7 rfl) ?_
  refine x_putJ (pc := 11) C fl_P_27 (pf_P_27 _) rfl ty_1_4 (d_P_getByte 8 rfl) ?_
  cases h
  exact x_vret (pc := 14) C hret (Nat.zero_le _) (Nat.zero_le _) (d_P_getByte 9 rfl)
def f_F_byteAt (x0 : Nat) (x1 : Int32) (st : XS) : Option Int32 :=
  if x1 < 0 then
    some (0)
  else
    if 64 ≤ x1 then
      some (0)
    else
      match st.2.2.1 4 x0 0 with
      | none => none
      | some i3 =>
        if x_in x1 64 then
          some (st.1 11 i3 x1.toNatClampNeg)
        else none
set_option maxRecDepth 100000 in
set_option maxHeartbeats 4000000 in
theorem m_F_byteAt (l : Launch) {x0 : Nat} {x1 : Int32} {st : XS} {r : Int32} (h : f_F_byteAt x0 x1 st = some r) : x_M l M_F_byteAt rm_F_byteAt [xR 4 (some (x0)), xI (x1)] st (.inl (some (xI r))) st 0 0 := by
  refine x_enter (Nat.le_of_ble_eq_true rfl) ?_
  intro p e s m below meth c D cA g args B C
  have hret := B.2.2.2.2.2.2.2.2.1
  have hmn := B.2.2.2.2.2.2.2.1
  have hex := B.2.2.2.2.2.2.2.2.2.1
  unfold f_F_byteAt at h
  refine x_iload_n (pc := 0) C (d_F_byteAt 0 rfl) rfl 1 rfl ?_
  refine x_if_lt (pc := 1) (tgt := 19) C (d_F_byteAt 1 rfl) (by decide) (fun c1 => ?_) (fun c1 => ?_)
  · rw [if_pos c1] at h
    refine x_iconst (pc := 19) (v := 0) C (by decide) (d_F_byteAt 10 rfl) ?_
    cases h
    exact x_iret (pc := 20) C hret rfl (Nat.zero_le _) (Nat.zero_le _) (d_F_byteAt 11 rfl)
  · rw [if_neg c1] at h
    refine x_iload_n (pc := 4) C (d_F_byteAt 2 rfl) rfl 1 rfl ?_
    refine x_bipush (pc := 5) (v := 64) C (by decide) (d_F_byteAt 3 rfl) ?_
    refine x_icmp_ge (pc := 7) (tgt := 19) C (d_F_byteAt 4 rfl) (by decide) (fun c2 => ?_) (fun c2 => ?_)
    · rw [if_pos c2] at h
      refine x_iconst (pc := 19) (v := 0) C (by decide) (d_F_byteAt 10 rfl) ?_
      cases h
      exact x_iret (pc := 20) C hret rfl (Nat.zero_le _) (Nat.zero_le _) (d_F_byteAt 11 rfl)
    · rw [if_neg c2] at h
      refine x_aload_n (pc := 10) C (d_F_byteAt 5 rfl) rfl 0 rfl ?_
      refine x_getR (pc := 11) (t := 11) C fl_F_9 rfl rfl (d_F_byteAt 6 rfl) ?_
      refine x_iload_n (pc := 14) C (d_F_byteAt 7 rfl) rfl 1 rfl ?_
      cases c4 : st.2.2.1 4 x0 0 with
      | none => rw [c4] at h; cases h
      | some i3 =>
        rw [c4] at h
        dsimp only at h
        by_cases b5 : x_in x1 64
        · rw [if_pos b5] at h
          refine x_iald (pc := 15) C ar_11 b5 (d_F_byteAt 8 rfl) ?_
          refine x_goto (pc := 16) (tgt := 20) C (d_F_byteAt 9 rfl) (by decide) ?_
          cases h
          exact x_iret (pc := 20) C hret rfl (Nat.zero_le _) (Nat.zero_le _) (d_F_byteAt 11 rfl)
        · rw [if_neg b5] at h; cases h
def f_B_addLast (x0 : Nat) (x1 : Int32) (st : XS) : Option (Unit × XS) :=
  match st.2.2.1 5 x0 0 with
  | none => none
  | some i1 =>
    if x_in (((st.1 5 x0 1) + (st.1 5 x0 2)) &&& (63 : Int32)) 64 then
      some ((), xsI (xsI st 12 i1 (((st.1 5 x0 1) + (st.1 5 x0 2)) &&& (63 : Int32)).toNatClampNeg x1) 5 x0 2 (((xsI st 12 i1 (((st.1 5 x0 1) + (st.1 5 x0 2)) &&& (63 : Int32)).toNatClampNeg x1).1 5 x0 2) + (1 : Int32)))
    else none
set_option maxRecDepth 100000 in
set_option maxHeartbeats 4000000 in
theorem m_B_addLast (l : Launch) {x0 : Nat} {x1 : Int32} {st : XS} {r : Unit} {st2 : XS} (h : f_B_addLast x0 x1 st = some (r, st2)) : x_M l M_B_addLast rm_B_addLast [xR 5 (some (x0)), xI (x1)] st (.inl (none)) st2 0 0 := by
  refine x_enter (Nat.le_of_ble_eq_true rfl) ?_
  intro p e s m below meth c D cA g args B C
  have hret := B.2.2.2.2.2.2.2.2.1
  have hmn := B.2.2.2.2.2.2.2.1
  have hex := B.2.2.2.2.2.2.2.2.2.1
  unfold f_B_addLast at h
  refine x_aload_n (pc := 0) C (d_B_addLast 0 rfl) rfl 0 rfl ?_
  refine x_getR (pc := 1) (t := 12) C fl_B_9 rfl rfl (d_B_addLast 1 rfl) ?_
  refine x_aload_n (pc := 4) C (d_B_addLast 2 rfl) rfl 0 rfl ?_
  refine x_getI (pc := 5) C fl_B_13 rfl (d_B_addLast 3 rfl) ?_
  refine x_aload_n (pc := 8) C (d_B_addLast 4 rfl) rfl 0 rfl ?_
  refine x_getI (pc := 9) C fl_B_17 rfl (d_B_addLast 5 rfl) ?_
  refine x_iadd (pc := 12) C (d_B_addLast 6 rfl) ?_
  refine x_bipush (pc := 13) (v := 63) C (by decide) (d_B_addLast 7 rfl) ?_
  refine x_iand (pc := 15) C (d_B_addLast 8 rfl) ?_
  refine x_iload_n (pc := 16) C (d_B_addLast 9 rfl) rfl 1 rfl ?_
  cases c2 : st.2.2.1 5 x0 0 with
  | none => rw [c2] at h; cases h
  | some i1 =>
    rw [c2] at h
    dsimp only at h
    by_cases b3 : x_in (((st.1 5 x0 1) + (st.1 5 x0 2)) &&& (63 : Int32)) 64
    · rw [if_pos b3] at h
      refine x_iast (pc := 17) C ar_12 b3 (d_B_addLast 10 rfl) ?_
      refine x_aload_n (pc := 18) C (d_B_addLast 11 rfl) rfl 0 rfl ?_
      refine x_dup (pc := 19) C rfl (d_B_addLast 12 rfl) ?_
      refine x_getI (pc := 20) C fl_B_17 rfl (d_B_addLast 13 rfl) ?_
      refine x_iconst (pc := 23) (v := 1) C (by decide) (d_B_addLast 14 rfl) ?_
      refine x_iadd (pc := 24) C (d_B_addLast 15 rfl) ?_
      refine x_putI (pc := 25) C fl_B_17 (pf_B_17 _) rfl ty_5_2 (d_B_addLast 16 rfl) ?_
      cases h
      exact x_vret (pc := 28) C hret (Nat.zero_le _) (Nat.zero_le _) (d_B_addLast 17 rfl)
    · rw [if_neg b3] at h; cases h
def f_F_put_16  : Nat → Nat → Int32 → Int32 → Int32 → XS → Option (Unit × XS)
  | 0, _, _, _, _, _ => none
  | n + 1, x0, x1, x2, x3, st =>
    if x1 ≤ x3 then
      match st.2.2.1 4 x0 0 with
      | none => none
      | some i2 =>
        if x_in x1 64 then
          match f_Math_max ((xsI st 11 i2 x1.toNatClampNeg x2).1 4 x0 1) (x1 + (1 : Int32)) (xsI st 11 i2 x1.toNatClampNeg x2) with
          | none => none
          | some v6 =>
            some ((), xsI (xsI st 11 i2 x1.toNatClampNeg x2) 4 x0 1 v6)
        else none
    else
      match st.2.2.1 4 x0 0 with
      | none => none
      | some i8 =>
        if x_in x3 64 then
          f_F_put_16 n x0 x1 x2 (x3 + 1) (xsI st 11 i8 x3.toNatClampNeg 0)
        else none
set_option maxRecDepth 100000 in
set_option maxHeartbeats 4000000 in
theorem v_F_put_16 {p : Program} {l : Launch} {e : Env} {s : State} {m : MethodId} {args : Array Value} {below : List Frame} {meth : Method} {c : Code} {D : va_G} {cA : Nat → ClassId} {g0 : Nat → Nat → Nat} {n0 : Nat → Nat} {r : Unit} {st2 : XS} (C : x_C p e rm_F_put s m args meth c D cA (x_A g0 n0 s.heap.size) M_F_put.2.1 M_F_put.1 M_F_put.2.2.1) (hret : meth.sig.returnType = M_F_put.2.2.2.1) (hmn : meth.name = M_F_put.2.2.2.2.2) (hex : c.exceptionTable.toList.map (fun h => (h.startPc, h.endPc, h.handlerPc, h.catchType)) = M_F_put.2.2.2.2.1)  : ∀ (n : Nat) (x0 : Nat) (x1 : Int32) (x2 : Int32) (x3 : Int32) (st : XS), f_F_put_16 n x0 x1 x2 x3 st = some (r, st2) → x_V p l e rm_F_put s m args below meth c D cA (x_A g0 n0 s.heap.size) M_F_put.2.2.1 g0 n0 (x_MQ D cA g0 n0 below s 0 0 (.inl (none)) st2) 16 [(0, xR 4 (some (x0))), (1, xI (x1)), (2, xI (x2)), (3, xI (x3))] [] st 0 0 := by
  intro n
  induction n with
  | zero => intro x0 x1 x2 x3 st h; cases h
  | succ n ih =>
    intro x0 x1 x2 x3 st h
    rw [f_F_put_16.eq_def] at h
    dsimp only at h
    refine x_iload_n (pc := 16) C (d_F_put 9 rfl) rfl 3 rfl ?_
    refine x_iload_n (pc := 17) C (d_F_put 10 rfl) rfl 1 rfl ?_
    refine x_icmp_ge (pc := 18) (tgt := 34) C (d_F_put 11 rfl) (by decide) (fun c1 => ?_) (fun c1 => ?_)
    · rw [if_pos c1] at h
      refine x_aload_n (pc := 34) C (d_F_put 19 rfl) rfl 0 rfl ?_
      refine x_getR (pc := 35) (t := 11) C fl_F_9 rfl rfl (d_F_put 20 rfl) ?_
      refine x_iload_n (pc := 38) C (d_F_put 21 rfl) rfl 1 rfl ?_
      refine x_iload_n (pc := 39) C (d_F_put 22 rfl) rfl 2 rfl ?_
      cases c3 : st.2.2.1 4 x0 0 with
      | none => rw [c3] at h; cases h
      | some i2 =>
        rw [c3] at h
        dsimp only at h
        by_cases b4 : x_in x1 64
        · rw [if_pos b4] at h
          refine x_iast (pc := 40) C ar_11 b4 (d_F_put 23 rfl) ?_
          refine x_aload_n (pc := 41) C (d_F_put 24 rfl) rfl 0 rfl ?_
          refine x_aload_n (pc := 42) C (d_F_put 25 rfl) rfl 0 rfl ?_
          refine x_getI (pc := 43) C fl_F_15 rfl (d_F_put 26 rfl) ?_
          refine x_iload_n (pc := 46) C (d_F_put 27 rfl) rfl 1 rfl ?_
          refine x_iconst (pc := 47) (v := 1) C (by decide) (d_F_put 28 rfl) ?_
          refine x_iadd (pc := 48) C (d_F_put 29 rfl) ?_
          cases c5 : f_Math_max ((xsI st 11 i2 x1.toNatClampNeg x2).1 4 x0 1) (x1 + (1 : Int32)) (xsI st 11 i2 x1.toNatClampNeg x2) with
          | none => rw [c5] at h; cases h
          | some v6 =>
            rw [c5] at h
            dsimp only at h
            refine x_callS (mc := 0) (ms := 0) (pc := 49) (aL := [xI ((xsI st 11 i2 x1.toNatClampNeg x2).1 4 x0 1), xI (x1 + (1 : Int32))]) (K := [xR 4 (some (x0))]) C cs_F_25 (m_Math_max l c5 : x_M l _ _ _ _ (.inl (some (xI v6))) _ 0 0) (by decide) rfl (Nat.le_of_ble_eq_true rfl) (d_F_put 30 rfl) ?_
            refine x_putI (pc := 52) C fl_F_15 (pf_F_15 _) rfl ty_4_1 (d_F_put 31 rfl) ?_
            cases h
            exact x_vret (pc := 55) C hret (Nat.zero_le _) (Nat.zero_le _) (d_F_put 32 rfl)
        · rw [if_neg b4] at h; cases h
    · rw [if_neg c1] at h
      refine x_aload_n (pc := 21) C (d_F_put 12 rfl) rfl 0 rfl ?_
      refine x_getR (pc := 22) (t := 11) C fl_F_9 rfl rfl (d_F_put 13 rfl) ?_
      refine x_iload_n (pc := 25) C (d_F_put 14 rfl) rfl 3 rfl ?_
      refine x_iconst (pc := 26) (v := 0) C (by decide) (d_F_put 15 rfl) ?_
      cases c9 : st.2.2.1 4 x0 0 with
      | none => rw [c9] at h; cases h
      | some i8 =>
        rw [c9] at h
        dsimp only at h
        by_cases b10 : x_in x3 64
        · rw [if_pos b10] at h
          refine x_iast (pc := 27) C ar_11 b10 (d_F_put 16 rfl) ?_
          refine x_iinc (pc := 28) (v := x3 + 1) (L2 := [(3, xI (x3 + 1)), (0, xR 4 (some (x0))), (1, xI (x1)), (2, xI (x2))]) C (d_F_put 17 rfl) 3 rfl rfl (by decide) rfl ?_
          refine x_goto (pc := 31) (tgt := 16) C (d_F_put 18 rfl) (by decide) ?_
          exact x_sub [1, 2, 3, 0] rfl (ih _ _ _ _ _ h)
        · rw [if_neg b10] at h; cases h
def f_F_put (x0 : Nat) (x1 : Int32) (x2 : Int32) (st : XS) : Option (Unit × XS) :=
  if x1 < 0 then
    some ((), st)
  else
    if x1 < 64 then
      f_F_put_16 100 x0 x1 x2 (st.1 4 x0 1) st
    else
      some ((), st)
set_option maxRecDepth 100000 in
set_option maxHeartbeats 4000000 in
theorem m_F_put (l : Launch) {x0 : Nat} {x1 : Int32} {x2 : Int32} {st : XS} {r : Unit} {st2 : XS} (h : f_F_put x0 x1 x2 st = some (r, st2)) : x_M l M_F_put rm_F_put [xR 4 (some (x0)), xI (x1), xI (x2)] st (.inl (none)) st2 0 0 := by
  refine x_enter (Nat.le_of_ble_eq_true rfl) ?_
  intro p e s m below meth c D cA g args B C
  have hret := B.2.2.2.2.2.2.2.2.1
  have hmn := B.2.2.2.2.2.2.2.1
  have hex := B.2.2.2.2.2.2.2.2.2.1
  unfold f_F_put at h
  refine x_iload_n (pc := 0) C (d_F_put 0 rfl) rfl 1 rfl ?_
  refine x_if_lt (pc := 1) (tgt := 10) C (d_F_put 1 rfl) (by decide) (fun c11 => ?_) (fun c11 => ?_)
  · rw [if_pos c11] at h
    cases h
    exact x_vret (pc := 10) C hret (Nat.zero_le _) (Nat.zero_le _) (d_F_put 5 rfl)
  · rw [if_neg c11] at h
    refine x_iload_n (pc := 4) C (d_F_put 2 rfl) rfl 1 rfl ?_
    refine x_bipush (pc := 5) (v := 64) C (by decide) (d_F_put 3 rfl) ?_
    refine x_icmp_lt (pc := 7) (tgt := 11) C (d_F_put 4 rfl) (by decide) (fun c12 => ?_) (fun c12 => ?_)
    · rw [if_pos c12] at h
      refine x_aload_n (pc := 11) C (d_F_put 6 rfl) rfl 0 rfl ?_
      refine x_getI (pc := 12) C fl_F_15 rfl (d_F_put 7 rfl) ?_
      refine x_istore_n (pc := 15) (L2 := [(3, xI (st.1 4 x0 1)), (0, xR 4 (some (x0))), (1, xI (x1)), (2, xI (x2))]) C (d_F_put 8 rfl) rfl (by decide) rfl ?_
      exact x_sub [1, 2, 3, 0] rfl (v_F_put_16 C hret hmn hex 100 _ _ _ _ _ h)
    · rw [if_neg c12] at h
      cases h
      exact x_vret (pc := 10) C hret (Nat.zero_le _) (Nat.zero_le _) (d_F_put 5 rfl)
