/-! methods as functions, by program (wip/gen) -/
def f_B_init (x0 : Nat) (st : XS) : Option (Unit × XS) :=
  some ((), xsI (xsI (xsR (xsN st 12) 5 x0 0 (some (st.2.2.2 12))) 5 x0 1 0) 5 x0 2 0)
set_option maxRecDepth 100000 in
set_option maxHeartbeats 4000000 in
theorem m_B_init (l : Launch) {x0 : Nat} {st : XS} {r : Unit} {st2 : XS} (h : f_B_init x0 st = some (r, st2)) : x_M l M_B_init rm_B_init [xR 5 (some (x0))] st (.inl (none)) st2 1 64 := by
  refine x_enter (Nat.le_of_ble_eq_true rfl) ?_
  intro p e s m below meth c D cA g args B C
  have hret := B.2.2.2.2.2.2.2.2.1
  have hmn := B.2.2.2.2.2.2.2.1
  have hex := B.2.2.2.2.2.2.2.2.2.1
  unfold f_B_init at h
  refine x_aload_n (pc := 0) C (d_B_init 0 rfl) rfl 0 rfl ?_
  refine x_oinit (pc := 1) C w_36 w_21 w_22 (by decide) (Nat.le_of_ble_eq_true rfl) (d_B_init 1 rfl) ?_
  refine x_aload_n (pc := 4) C (d_B_init 2 rfl) rfl 0 rfl ?_
  refine x_bipush (pc := 5) (v := 64) C (by decide) (d_B_init 3 rfl) ?_
  refine x_newan (n := st.2.2.2 12) (pc := 7) (by rfl) C ar_12 rfl rfl (fun _ h => h) w_48 (by decide) (by decide) (by decide) (Nat.le_of_ble_eq_true rfl) (Nat.le_of_ble_eq_true rfl) (d_B_init 4 rfl) ?_
  refine x_putR (pc := 9) C fl_B_9 (pf_B_9 hmn) rfl (Or.inr rfl) ty_5_0 (d_B_init 5 rfl) ?_
  refine x_aload_n (pc := 12) C (d_B_init 6 rfl) rfl 0 rfl ?_
  refine x_iconst (pc := 13) (v := 0) C (by decide) (d_B_init 7 rfl) ?_
  refine x_putI (pc := 14) C fl_B_13 (pf_B_13 _) rfl ty_5_1 (d_B_init 8 rfl) ?_
  refine x_aload_n (pc := 17) C (d_B_init 9 rfl) rfl 0 rfl ?_
  refine x_iconst (pc := 18) (v := 0) C (by decide) (d_B_init 10 rfl) ?_
  refine x_putI (pc := 19) C fl_B_17 (pf_B_17 _) rfl ty_5_2 (d_B_init 11 rfl) ?_
  cases h
  exact x_vret (pc := 22) C hret (Nat.le_of_ble_eq_true rfl) (Nat.le_of_ble_eq_true rfl) (d_B_init 12 rfl)
def f_P_init (x0 : Nat) (st : XS) : Option (Unit × XS) :=
  some ((), xsJ (xsI (xsI (xsI (xsR (xsN st 10) 1 x0 0 (some (st.2.2.2 10))) 1 x0 1 0) 1 x0 2 ((-1))) 1 x0 3 0) 1 x0 4 0)
set_option maxRecDepth 100000 in
set_option maxHeartbeats 4000000 in
theorem m_P_init (l : Launch) {x0 : Nat} {st : XS} {r : Unit} {st2 : XS} (h : f_P_init x0 st = some (r, st2)) : x_M l M_P_init rm_P_init [xR 1 (some (x0))] st (.inl (none)) st2 1 8 := by
  refine x_enter (Nat.le_of_ble_eq_true rfl) ?_
  intro p e s m below meth c D cA g args B C
  have hret := B.2.2.2.2.2.2.2.2.1
  have hmn := B.2.2.2.2.2.2.2.1
  have hex := B.2.2.2.2.2.2.2.2.2.1
  unfold f_P_init at h
  refine x_aload_n (pc := 0) C (d_P_init 0 rfl) rfl 0 rfl ?_
  refine x_oinit (pc := 1) C w_53 w_21 w_22 (by decide) (Nat.le_of_ble_eq_true rfl) (d_P_init 1 rfl) ?_
  refine x_aload_n (pc := 4) C (d_P_init 2 rfl) rfl 0 rfl ?_
  refine x_bipush (pc := 5) (v := 8) C (by decide) (d_P_init 3 rfl) ?_
  refine x_anewn (n := st.2.2.2 10) (pc := 7) (by rfl) C ar_10 w_54 (C.2.2.2.2.2.2.2.2.2.2.2.2.1 _ (by decide)) (by decide) (by decide) (by decide) (Nat.le_of_ble_eq_true rfl) (Nat.le_of_ble_eq_true rfl) (d_P_init 4 rfl) ?_
  refine x_putR (pc := 10) C fl_P_11 (pf_P_11 hmn) rfl (Or.inr rfl) ty_1_0 (d_P_init 5 rfl) ?_
  refine x_aload_n (pc := 13) C (d_P_init 6 rfl) rfl 0 rfl ?_
  refine x_iconst (pc := 14) (v := 0) C (by decide) (d_P_init 7 rfl) ?_
  refine x_putI (pc := 15) C fl_P_17 (pf_P_17 _) rfl ty_1_1 (d_P_init 8 rfl) ?_
  refine x_aload_n (pc := 18) C (d_P_init 9 rfl) rfl 0 rfl ?_
  refine x_iconst (pc := 19) (v := (-1)) C (by decide) (d_P_init 10 rfl) ?_
  refine x_putI (pc := 20) C fl_P_21 (pf_P_21 _) rfl ty_1_2 (d_P_init 11 rfl) ?_
  refine x_aload_n (pc := 23) C (d_P_init 12 rfl) rfl 0 rfl ?_
  refine x_iconst (pc := 24) (v := 0) C (by decide) (d_P_init 13 rfl) ?_
  refine x_putI (pc := 25) C fl_P_24 (pf_P_24 _) rfl ty_1_3 (d_P_init 14 rfl) ?_
  refine x_aload_n (pc := 28) C (d_P_init 15 rfl) rfl 0 rfl ?_
  refine x_lconst (pc := 29) (v := 0) C (by decide) (d_P_init 16 rfl) ?_
  refine x_putJ (pc := 30) C fl_P_27 (pf_P_27 _) rfl ty_1_4 (d_P_init 17 rfl) ?_
  cases h
  exact x_vret (pc := 33) C hret (Nat.le_of_ble_eq_true rfl) (Nat.le_of_ble_eq_true rfl) (d_P_init 18 rfl)
def f_O_init (x0 : Nat) (st : XS) : Option (Unit × XS) :=
  some ((), xsI (xsI (xsI (xsR (xsR st 2 x0 0 (none)) 2 x0 1 (none)) 2 x0 2 0) 2 x0 3 0) 2 x0 4 0)
set_option maxRecDepth 100000 in
set_option maxHeartbeats 4000000 in
theorem m_O_init (l : Launch) {x0 : Nat} {st : XS} {r : Unit} {st2 : XS} (h : f_O_init x0 st = some (r, st2)) : x_M l M_O_init rm_O_init [xR 2 (some (x0))] st (.inl (none)) st2 0 0 := by
  refine x_enter (Nat.le_of_ble_eq_true rfl) ?_
  intro p e s m below meth c D cA g args B C
  have hret := B.2.2.2.2.2.2.2.2.1
  have hmn := B.2.2.2.2.2.2.2.1
  have hex := B.2.2.2.2.2.2.2.2.2.1
  unfold f_O_init at h
  refine x_aload_n (pc := 0) C (d_O_init 0 rfl) rfl 0 rfl ?_
  refine x_oinit (pc := 1) C w_79 w_21 w_22 (by decide) (Nat.le_of_ble_eq_true rfl) (d_O_init 1 rfl) ?_
  refine x_aload_n (pc := 4) C (d_O_init 2 rfl) rfl 0 rfl ?_
  refine x_nullq (pc := 5) (q := 3) C (d_O_init 3 rfl) ?_
  refine x_putR (pc := 6) C fl_O_7 (pf_O_7 _) rfl (Or.inr rfl) ty_2_0 (d_O_init 4 rfl) ?_
  refine x_aload_n (pc := 9) C (d_O_init 5 rfl) rfl 0 rfl ?_
  refine x_nullq (pc := 10) (q := 4) C (d_O_init 6 rfl) ?_
  refine x_putR (pc := 11) C fl_O_13 (pf_O_13 _) rfl (Or.inr rfl) ty_2_1 (d_O_init 7 rfl) ?_
  refine x_aload_n (pc := 14) C (d_O_init 8 rfl) rfl 0 rfl ?_
  refine x_iconst (pc := 15) (v := 0) C (by decide) (d_O_init 9 rfl) ?_
  refine x_putI (pc := 16) C fl_O_17 (pf_O_17 _) rfl ty_2_2 (d_O_init 10 rfl) ?_
  refine x_aload_n (pc := 19) C (d_O_init 11 rfl) rfl 0 rfl ?_
  refine x_iconst (pc := 20) (v := 0) C (by decide) (d_O_init 12 rfl) ?_
  refine x_putI (pc := 21) C fl_O_21 (pf_O_21 _) rfl ty_2_3 (d_O_init 13 rfl) ?_
  refine x_aload_n (pc := 24) C (d_O_init 14 rfl) rfl 0 rfl ?_
  refine x_iconst (pc := 25) (v := 0) C (by decide) (d_O_init 15 rfl) ?_
  refine x_putI (pc := 26) C fl_O_24 (pf_O_24 _) rfl ty_2_4 (d_O_init 16 rfl) ?_
  cases h
  exact x_vret (pc := 29) C hret (Nat.zero_le _) (Nat.zero_le _) (d_O_init 17 rfl)
def f_I_init (x0 : Nat) (st : XS) : Option (Unit × XS) :=
  match f_B_init (st.2.2.2 5) (xsN st 5) with
  | none => none
  | some (_, st3) =>
    some ((), xsI (xsI (xsR st3 3 x0 0 (some (st.2.2.2 5))) 3 x0 1 0) 3 x0 2 0)
set_option maxRecDepth 100000 in
set_option maxHeartbeats 4000000 in
theorem m_I_init (l : Launch) {x0 : Nat} {st : XS} {r : Unit} {st2 : XS} (h : f_I_init x0 st = some (r, st2)) : x_M l M_I_init rm_I_init [xR 3 (some (x0))] st (.inl (none)) st2 2 67 := by
  refine x_enter (Nat.le_of_ble_eq_true rfl) ?_
  intro p e s m below meth c D cA g args B C
  have hret := B.2.2.2.2.2.2.2.2.1
  have hmn := B.2.2.2.2.2.2.2.1
  have hex := B.2.2.2.2.2.2.2.2.2.1
  unfold f_I_init at h
  refine x_aload_n (pc := 0) C (d_I_init 0 rfl) rfl 0 rfl ?_
  refine x_oinit (pc := 1) C w_106 w_21 w_22 (by decide) (Nat.le_of_ble_eq_true rfl) (d_I_init 1 rfl) ?_
  refine x_aload_n (pc := 4) C (d_I_init 2 rfl) rfl 0 rfl ?_
  refine x_newn (n := st.2.2.2 5) (pc := 5) (q := 5) (by rfl) C rfl rfl w_107 w_32 w_2 df_5 (Nat.le_of_ble_eq_true rfl) (Nat.le_of_ble_eq_true rfl) (d_I_init 3 rfl) ?_
  refine x_dup (pc := 8) C rfl (d_I_init 4 rfl) ?_
  cases c1 : f_B_init (st.2.2.2 5) (xsN st 5) with
  | none => rw [c1] at h; cases h
  | some w4 =>
    obtain ⟨v2, st3⟩ := w4
    rw [c1] at h
    dsimp only at h
    refine x_callI (mc := 1) (ms := 64) (pc := 9) (bL := []) (K := [xR 5 (some (st.2.2.2 5)), xR 3 (some (x0))]) C cs_I_11 (m_B_init l c1 : x_M l _ _ _ _ (.inl none) _ 1 64) (by decide) rfl (Nat.le_of_ble_eq_true rfl) (d_I_init 5 rfl) ?_
    refine x_putR (pc := 12) C fl_I_12 (pf_I_12 hmn) rfl (Or.inr rfl) ty_3_0 (d_I_init 6 rfl) ?_
    refine x_aload_n (pc := 15) C (d_I_init 7 rfl) rfl 0 rfl ?_
    refine x_iconst (pc := 16) (v := 0) C (by decide) (d_I_init 8 rfl) ?_
    refine x_putI (pc := 17) C fl_I_18 (pf_I_18 _) rfl ty_3_1 (d_I_init 9 rfl) ?_
    refine x_aload_n (pc := 20) C (d_I_init 10 rfl) rfl 0 rfl ?_
    refine x_iconst (pc := 21) (v := 0) C (by decide) (d_I_init 11 rfl) ?_
    refine x_putI (pc := 22) C fl_I_22 (pf_I_22 _) rfl ty_3_2 (d_I_init 12 rfl) ?_
    cases h
    exact x_vret (pc := 25) C hret (Nat.le_of_ble_eq_true rfl) (Nat.le_of_ble_eq_true rfl) (d_I_init 13 rfl)
def f_F_init (x0 : Nat) (st : XS) : Option (Unit × XS) :=
  some ((), xsI (xsI (xsI (xsR (xsN st 11) 4 x0 0 (some (st.2.2.2 11))) 4 x0 1 0) 4 x0 2 0) 4 x0 3 0)
set_option maxRecDepth 100000 in
set_option maxHeartbeats 4000000 in
theorem m_F_init (l : Launch) {x0 : Nat} {st : XS} {r : Unit} {st2 : XS} (h : f_F_init x0 st = some (r, st2)) : x_M l M_F_init rm_F_init [xR 4 (some (x0))] st (.inl (none)) st2 1 64 := by
  refine x_enter (Nat.le_of_ble_eq_true rfl) ?_
  intro p e s m below meth c D cA g args B C
  have hret := B.2.2.2.2.2.2.2.2.1
  have hmn := B.2.2.2.2.2.2.2.1
  have hex := B.2.2.2.2.2.2.2.2.2.1
  unfold f_F_init at h
  refine x_aload_n (pc := 0) C (d_F_init 0 rfl) rfl 0 rfl ?_
  refine x_oinit (pc := 1) C w_126 w_21 w_22 (by decide) (Nat.le_of_ble_eq_true rfl) (d_F_init 1 rfl) ?_
  refine x_aload_n (pc := 4) C (d_F_init 2 rfl) rfl 0 rfl ?_
  refine x_bipush (pc := 5) (v := 64) C (by decide) (d_F_init 3 rfl) ?_
  refine x_newan (n := st.2.2.2 11) (pc := 7) (by rfl) C ar_11 rfl rfl (fun _ h => h) w_48 (by decide) (by decide) (by decide) (Nat.le_of_ble_eq_true rfl) (Nat.le_of_ble_eq_true rfl) (d_F_init 4 rfl) ?_
  refine x_putR (pc := 9) C fl_F_9 (pf_F_9 hmn) rfl (Or.inr rfl) ty_4_0 (d_F_init 5 rfl) ?_
  refine x_aload_n (pc := 12) C (d_F_init 6 rfl) rfl 0 rfl ?_
  refine x_iconst (pc := 13) (v := 0) C (by decide) (d_F_init 7 rfl) ?_
  refine x_putI (pc := 14) C fl_F_15 (pf_F_15 _) rfl ty_4_1 (d_F_init 8 rfl) ?_
  refine x_aload_n (pc := 17) C (d_F_init 9 rfl) rfl 0 rfl ?_
  refine x_iconst (pc := 18) (v := 0) C (by decide) (d_F_init 10 rfl) ?_
  refine x_putI (pc := 19) C fl_F_19 (pf_F_19 _) rfl ty_4_2 (d_F_init 11 rfl) ?_
  refine x_aload_n (pc := 22) C (d_F_init 12 rfl) rfl 0 rfl ?_
  refine x_iconst (pc := 23) (v := 0) C (by decide) (d_F_init 13 rfl) ?_
  refine x_putI (pc := 24) C fl_F_22 (pf_F_22 _) rfl ty_4_3 (d_F_init 14 rfl) ?_
  cases h
  exact x_vret (pc := 27) C hret (Nat.le_of_ble_eq_true rfl) (Nat.le_of_ble_eq_true rfl) (d_F_init 15 rfl)
def f_D_init (x0 : Nat) (st : XS) : Option (Unit × XS) :=
  match f_B_init (st.2.2.2 5) (xsN (xsR (xsN (xsR (xsN (xsR (xsN (xsR (xsN st 6) 0 x0 0 (some (st.2.2.2 6))) 7) 0 x0 1 (some (st.2.2.2 7))) 8) 0 x0 2 (some (st.2.2.2 8))) 9) 0 x0 3 (some (st.2.2.2 9))) 5) with
  | none => none
  | some (_, st3) =>
    match f_B_init (st3.2.2.2 5) (xsN (xsR st3 0 x0 4 (some (st.2.2.2 5))) 5) with
    | none => none
    | some (_, st6) =>
      match f_P_init (st6.2.2.2 1) (xsN (xsI (xsR st6 0 x0 5 (some (st3.2.2.2 5))) 0 x0 6 0) 1) with
      | none => none
      | some (_, st10) =>
        match (xsI (xsR st6 0 x0 5 (some (st3.2.2.2 5))) 0 x0 6 0).2.2.1 0 x0 0 with
        | none => none
        | some i11 =>
          if x_in 0 8 then
            match f_P_init (st10.2.2.2 1) (xsN (xsR st10 6 i11 (0 : Int32).toNatClampNeg (some (st6.2.2.2 1))) 1) with
            | none => none
            | some (_, st17) =>
              match (xsR st10 6 i11 (0 : Int32).toNatClampNeg (some (st6.2.2.2 1))).2.2.1 0 x0 0 with
              | none => none
              | some i18 =>
                if x_in 1 8 then
                  match f_P_init (st17.2.2.2 1) (xsN (xsR st17 6 i18 (1 : Int32).toNatClampNeg (some (st10.2.2.2 1))) 1) with
                  | none => none
                  | some (_, st24) =>
                    match (xsR st17 6 i18 (1 : Int32).toNatClampNeg (some (st10.2.2.2 1))).2.2.1 0 x0 0 with
                    | none => none
                    | some i25 =>
                      if x_in 2 8 then
                        match f_P_init (st24.2.2.2 1) (xsN (xsR st24 6 i25 (2 : Int32).toNatClampNeg (some (st17.2.2.2 1))) 1) with
                        | none => none
                        | some (_, st31) =>
                          match (xsR st24 6 i25 (2 : Int32).toNatClampNeg (some (st17.2.2.2 1))).2.2.1 0 x0 0 with
                          | none => none
                          | some i32 =>
                            if x_in 3 8 then
                              match f_P_init (st31.2.2.2 1) (xsN (xsR st31 6 i32 (3 : Int32).toNatClampNeg (some (st24.2.2.2 1))) 1) with
                              | none => none
                              | some (_, st38) =>
                                match (xsR st31 6 i32 (3 : Int32).toNatClampNeg (some (st24.2.2.2 1))).2.2.1 0 x0 0 with
                                | none => none
                                | some i39 =>
                                  if x_in 4 8 then
                                    match f_P_init (st38.2.2.2 1) (xsN (xsR st38 6 i39 (4 : Int32).toNatClampNeg (some (st31.2.2.2 1))) 1) with
                                    | none => none
                                    | some (_, st45) =>
                                      match (xsR st38 6 i39 (4 : Int32).toNatClampNeg (some (st31.2.2.2 1))).2.2.1 0 x0 0 with
                                      | none => none
                                      | some i46 =>
                                        if x_in 5 8 then
                                          match f_P_init (st45.2.2.2 1) (xsN (xsR st45 6 i46 (5 : Int32).toNatClampNeg (some (st38.2.2.2 1))) 1) with
                                          | none => none
                                          | some (_, st52) =>
                                            match (xsR st45 6 i46 (5 : Int32).toNatClampNeg (some (st38.2.2.2 1))).2.2.1 0 x0 0 with
                                            | none => none
                                            | some i53 =>
                                              if x_in 6 8 then
                                                match f_P_init (st52.2.2.2 1) (xsN (xsR st52 6 i53 (6 : Int32).toNatClampNeg (some (st45.2.2.2 1))) 1) with
                                                | none => none
                                                | some (_, st59) =>
                                                  match (xsR st52 6 i53 (6 : Int32).toNatClampNeg (some (st45.2.2.2 1))).2.2.1 0 x0 0 with
                                                  | none => none
                                                  | some i60 =>
                                                    if x_in 7 8 then
                                                      match f_O_init (st59.2.2.2 2) (xsN (xsR st59 6 i60 (7 : Int32).toNatClampNeg (some (st52.2.2.2 1))) 2) with
                                                      | none => none
                                                      | some (_, st67) =>
                                                        match (xsR st59 6 i60 (7 : Int32).toNatClampNeg (some (st52.2.2.2 1))).2.2.1 0 x0 1 with
                                                        | none => none
                                                        | some i68 =>
                                                          if x_in 0 20 then
                                                            match f_O_init (st67.2.2.2 2) (xsN (xsR st67 7 i68 (0 : Int32).toNatClampNeg (some (st59.2.2.2 2))) 2) with
                                                            | none => none
                                                            | some (_, st74) =>
                                                              match (xsR st67 7 i68 (0 : Int32).toNatClampNeg (some (st59.2.2.2 2))).2.2.1 0 x0 1 with
                                                              | none => none
                                                              | some i75 =>
                                                                if x_in 1 20 then
                                                                  match f_O_init (st74.2.2.2 2) (xsN (xsR st74 7 i75 (1 : Int32).toNatClampNeg (some (st67.2.2.2 2))) 2) with
                                                                  | none => none
                                                                  | some (_, st81) =>
                                                                    match (xsR st74 7 i75 (1 : Int32).toNatClampNeg (some (st67.2.2.2 2))).2.2.1 0 x0 1 with
                                                                    | none => none
                                                                    | some i82 =>
                                                                      if x_in 2 20 then
                                                                        match f_O_init (st81.2.2.2 2) (xsN (xsR st81 7 i82 (2 : Int32).toNatClampNeg (some (st74.2.2.2 2))) 2) with
                                                                        | none => none
                                                                        | some (_, st88) =>
                                                                          match (xsR st81 7 i82 (2 : Int32).toNatClampNeg (some (st74.2.2.2 2))).2.2.1 0 x0 1 with
                                                                          | none => none
                                                                          | some i89 =>
                                                                            if x_in 3 20 then
                                                                              match f_O_init (st88.2.2.2 2) (xsN (xsR st88 7 i89 (3 : Int32).toNatClampNeg (some (st81.2.2.2 2))) 2) with
                                                                              | none => none
                                                                              | some (_, st95) =>
                                                                                match (xsR st88 7 i89 (3 : Int32).toNatClampNeg (some (st81.2.2.2 2))).2.2.1 0 x0 1 with
                                                                                | none => none
                                                                                | some i96 =>
                                                                                  if x_in 4 20 then
                                                                                    match f_O_init (st95.2.2.2 2) (xsN (xsR st95 7 i96 (4 : Int32).toNatClampNeg (some (st88.2.2.2 2))) 2) with
                                                                                    | none => none
                                                                                    | some (_, st102) =>
                                                                                      match (xsR st95 7 i96 (4 : Int32).toNatClampNeg (some (st88.2.2.2 2))).2.2.1 0 x0 1 with
                                                                                      | none => none
                                                                                      | some i103 =>
                                                                                        if x_in 5 20 then
                                                                                          match f_O_init (st102.2.2.2 2) (xsN (xsR st102 7 i103 (5 : Int32).toNatClampNeg (some (st95.2.2.2 2))) 2) with
                                                                                          | none => none
                                                                                          | some (_, st109) =>
                                                                                            match (xsR st102 7 i103 (5 : Int32).toNatClampNeg (some (st95.2.2.2 2))).2.2.1 0 x0 1 with
                                                                                            | none => none
                                                                                            | some i110 =>
                                                                                              if x_in 6 20 then
                                                                                                match f_O_init (st109.2.2.2 2) (xsN (xsR st109 7 i110 (6 : Int32).toNatClampNeg (some (st102.2.2.2 2))) 2) with
                                                                                                | none => none
                                                                                                | some (_, st116) =>
                                                                                                  match (xsR st109 7 i110 (6 : Int32).toNatClampNeg (some (st102.2.2.2 2))).2.2.1 0 x0 1 with
                                                                                                  | none => none
                                                                                                  | some i117 =>
                                                                                                    if x_in 7 20 then
                                                                                                      match f_O_init (st116.2.2.2 2) (xsN (xsR st116 7 i117 (7 : Int32).toNatClampNeg (some (st109.2.2.2 2))) 2) with
                                                                                                      | none => none
                                                                                                      | some (_, st123) =>
                                                                                                        match (xsR st116 7 i117 (7 : Int32).toNatClampNeg (some (st109.2.2.2 2))).2.2.1 0 x0 1 with
                                                                                                        | none => none
                                                                                                        | some i124 =>
                                                                                                          if x_in 8 20 then
                                                                                                            match f_O_init (st123.2.2.2 2) (xsN (xsR st123 7 i124 (8 : Int32).toNatClampNeg (some (st116.2.2.2 2))) 2) with
                                                                                                            | none => none
                                                                                                            | some (_, st130) =>
                                                                                                              match (xsR st123 7 i124 (8 : Int32).toNatClampNeg (some (st116.2.2.2 2))).2.2.1 0 x0 1 with
                                                                                                              | none => none
                                                                                                              | some i131 =>
                                                                                                                if x_in 9 20 then
                                                                                                                  match f_O_init (st130.2.2.2 2) (xsN (xsR st130 7 i131 (9 : Int32).toNatClampNeg (some (st123.2.2.2 2))) 2) with
                                                                                                                  | none => none
                                                                                                                  | some (_, st137) =>
                                                                                                                    match (xsR st130 7 i131 (9 : Int32).toNatClampNeg (some (st123.2.2.2 2))).2.2.1 0 x0 1 with
                                                                                                                    | none => none
                                                                                                                    | some i138 =>
                                                                                                                      if x_in 10 20 then
                                                                                                                        match f_O_init (st137.2.2.2 2) (xsN (xsR st137 7 i138 (10 : Int32).toNatClampNeg (some (st130.2.2.2 2))) 2) with
                                                                                                                        | none => none
                                                                                                                        | some (_, st144) =>
                                                                                                                          match (xsR st137 7 i138 (10 : Int32).toNatClampNeg (some (st130.2.2.2 2))).2.2.1 0 x0 1 with
                                                                                                                          | none => none
                                                                                                                          | some i145 =>
                                                                                                                            if x_in 11 20 then
                                                                                                                              match f_O_init (st144.2.2.2 2) (xsN (xsR st144 7 i145 (11 : Int32).toNatClampNeg (some (st137.2.2.2 2))) 2) with
                                                                                                                              | none => none
                                                                                                                              | some (_, st151) =>
                                                                                                                                match (xsR st144 7 i145 (11 : Int32).toNatClampNeg (some (st137.2.2.2 2))).2.2.1 0 x0 1 with
                                                                                                                                | none => none
                                                                                                                                | some i152 =>
                                                                                                                                  if x_in 12 20 then
                                                                                                                                    match f_O_init (st151.2.2.2 2) (xsN (xsR st151 7 i152 (12 : Int32).toNatClampNeg (some (st144.2.2.2 2))) 2) with
                                                                                                                                    | none => none
                                                                                                                                    | some (_, st158) =>
                                                                                                                                      match (xsR st151 7 i152 (12 : Int32).toNatClampNeg (some (st144.2.2.2 2))).2.2.1 0 x0 1 with
                                                                                                                                      | none => none
                                                                                                                                      | some i159 =>
                                                                                                                                        if x_in 13 20 then
                                                                                                                                          match f_O_init (st158.2.2.2 2) (xsN (xsR st158 7 i159 (13 : Int32).toNatClampNeg (some (st151.2.2.2 2))) 2) with
                                                                                                                                          | none => none
                                                                                                                                          | some (_, st165) =>
                                                                                                                                            match (xsR st158 7 i159 (13 : Int32).toNatClampNeg (some (st151.2.2.2 2))).2.2.1 0 x0 1 with
                                                                                                                                            | none => none
                                                                                                                                            | some i166 =>
                                                                                                                                              if x_in 14 20 then
                                                                                                                                                match f_O_init (st165.2.2.2 2) (xsN (xsR st165 7 i166 (14 : Int32).toNatClampNeg (some (st158.2.2.2 2))) 2) with
                                                                                                                                                | none => none
                                                                                                                                                | some (_, st172) =>
                                                                                                                                                  match (xsR st165 7 i166 (14 : Int32).toNatClampNeg (some (st158.2.2.2 2))).2.2.1 0 x0 1 with
                                                                                                                                                  | none => none
                                                                                                                                                  | some i173 =>
                                                                                                                                                    if x_in 15 20 then
                                                                                                                                                      match f_O_init (st172.2.2.2 2) (xsN (xsR st172 7 i173 (15 : Int32).toNatClampNeg (some (st165.2.2.2 2))) 2) with
                                                                                                                                                      | none => none
                                                                                                                                                      | some (_, st179) =>
                                                                                                                                                        match (xsR st172 7 i173 (15 : Int32).toNatClampNeg (some (st165.2.2.2 2))).2.2.1 0 x0 1 with
                                                                                                                                                        | none => none
                                                                                                                                                        | some i180 =>
                                                                                                                                                          if x_in 16 20 then
                                                                                                                                                            match f_O_init (st179.2.2.2 2) (xsN (xsR st179 7 i180 (16 : Int32).toNatClampNeg (some (st172.2.2.2 2))) 2) with
                                                                                                                                                            | none => none
                                                                                                                                                            | some (_, st186) =>
                                                                                                                                                              match (xsR st179 7 i180 (16 : Int32).toNatClampNeg (some (st172.2.2.2 2))).2.2.1 0 x0 1 with
                                                                                                                                                              | none => none
                                                                                                                                                              | some i187 =>
                                                                                                                                                                if x_in 17 20 then
                                                                                                                                                                  match f_O_init (st186.2.2.2 2) (xsN (xsR st186 7 i187 (17 : Int32).toNatClampNeg (some (st179.2.2.2 2))) 2) with
                                                                                                                                                                  | none => none
                                                                                                                                                                  | some (_, st193) =>
                                                                                                                                                                    match (xsR st186 7 i187 (17 : Int32).toNatClampNeg (some (st179.2.2.2 2))).2.2.1 0 x0 1 with
                                                                                                                                                                    | none => none
                                                                                                                                                                    | some i194 =>
                                                                                                                                                                      if x_in 18 20 then
                                                                                                                                                                        match f_O_init (st193.2.2.2 2) (xsN (xsR st193 7 i194 (18 : Int32).toNatClampNeg (some (st186.2.2.2 2))) 2) with
                                                                                                                                                                        | none => none
                                                                                                                                                                        | some (_, st200) =>
                                                                                                                                                                          match (xsR st193 7 i194 (18 : Int32).toNatClampNeg (some (st186.2.2.2 2))).2.2.1 0 x0 1 with
                                                                                                                                                                          | none => none
                                                                                                                                                                          | some i201 =>
                                                                                                                                                                            if x_in 19 20 then
                                                                                                                                                                              match f_I_init (st200.2.2.2 3) (xsN (xsR st200 7 i201 (19 : Int32).toNatClampNeg (some (st193.2.2.2 2))) 3) with
                                                                                                                                                                              | none => none
                                                                                                                                                                              | some (_, st208) =>
                                                                                                                                                                                match (xsR st200 7 i201 (19 : Int32).toNatClampNeg (some (st193.2.2.2 2))).2.2.1 0 x0 2 with
                                                                                                                                                                                | none => none
                                                                                                                                                                                | some i209 =>
                                                                                                                                                                                  if x_in 0 6 then
                                                                                                                                                                                    match f_I_init (st208.2.2.2 3) (xsN (xsR st208 8 i209 (0 : Int32).toNatClampNeg (some (st200.2.2.2 3))) 3) with
                                                                                                                                                                                    | none => none
                                                                                                                                                                                    | some (_, st215) =>
                                                                                                                                                                                      match (xsR st208 8 i209 (0 : Int32).toNatClampNeg (some (st200.2.2.2 3))).2.2.1 0 x0 2 with
                                                                                                                                                                                      | none => none
                                                                                                                                                                                      | some i216 =>
                                                                                                                                                                                        if x_in 1 6 then
                                                                                                                                                                                          match f_I_init (st215.2.2.2 3) (xsN (xsR st215 8 i216 (1 : Int32).toNatClampNeg (some (st208.2.2.2 3))) 3) with
                                                                                                                                                                                          | none => none
                                                                                                                                                                                          | some (_, st222) =>
                                                                                                                                                                                            match (xsR st215 8 i216 (1 : Int32).toNatClampNeg (some (st208.2.2.2 3))).2.2.1 0 x0 2 with
                                                                                                                                                                                            | none => none
                                                                                                                                                                                            | some i223 =>
                                                                                                                                                                                              if x_in 2 6 then
                                                                                                                                                                                                match f_I_init (st222.2.2.2 3) (xsN (xsR st222 8 i223 (2 : Int32).toNatClampNeg (some (st215.2.2.2 3))) 3) with
                                                                                                                                                                                                | none => none
                                                                                                                                                                                                | some (_, st229) =>
                                                                                                                                                                                                  match (xsR st222 8 i223 (2 : Int32).toNatClampNeg (some (st215.2.2.2 3))).2.2.1 0 x0 2 with
                                                                                                                                                                                                  | none => none
                                                                                                                                                                                                  | some i230 =>
                                                                                                                                                                                                    if x_in 3 6 then
                                                                                                                                                                                                      match f_I_init (st229.2.2.2 3) (xsN (xsR st229 8 i230 (3 : Int32).toNatClampNeg (some (st222.2.2.2 3))) 3) with
                                                                                                                                                                                                      | none => none
                                                                                                                                                                                                      | some (_, st236) =>
                                                                                                                                                                                                        match (xsR st229 8 i230 (3 : Int32).toNatClampNeg (some (st222.2.2.2 3))).2.2.1 0 x0 2 with
                                                                                                                                                                                                        | none => none
                                                                                                                                                                                                        | some i237 =>
                                                                                                                                                                                                          if x_in 4 6 then
                                                                                                                                                                                                            match f_I_init (st236.2.2.2 3) (xsN (xsR st236 8 i237 (4 : Int32).toNatClampNeg (some (st229.2.2.2 3))) 3) with
                                                                                                                                                                                                            | none => none
                                                                                                                                                                                                            | some (_, st243) =>
                                                                                                                                                                                                              match (xsR st236 8 i237 (4 : Int32).toNatClampNeg (some (st229.2.2.2 3))).2.2.1 0 x0 2 with
                                                                                                                                                                                                              | none => none
                                                                                                                                                                                                              | some i244 =>
                                                                                                                                                                                                                if x_in 5 6 then
                                                                                                                                                                                                                  match f_F_init (st243.2.2.2 4) (xsN (xsR st243 8 i244 (5 : Int32).toNatClampNeg (some (st236.2.2.2 3))) 4) with
                                                                                                                                                                                                                  | none => none
                                                                                                                                                                                                                  | some (_, st251) =>
                                                                                                                                                                                                                    match (xsR st243 8 i244 (5 : Int32).toNatClampNeg (some (st236.2.2.2 3))).2.2.1 0 x0 3 with
                                                                                                                                                                                                                    | none => none
                                                                                                                                                                                                                    | some i252 =>
                                                                                                                                                                                                                      if x_in 0 6 then
                                                                                                                                                                                                                        match f_F_init (st251.2.2.2 4) (xsN (xsR st251 9 i252 (0 : Int32).toNatClampNeg (some (st243.2.2.2 4))) 4) with
                                                                                                                                                                                                                        | none => none
                                                                                                                                                                                                                        | some (_, st258) =>
                                                                                                                                                                                                                          match (xsR st251 9 i252 (0 : Int32).toNatClampNeg (some (st243.2.2.2 4))).2.2.1 0 x0 3 with
                                                                                                                                                                                                                          | none => none
                                                                                                                                                                                                                          | some i259 =>
                                                                                                                                                                                                                            if x_in 1 6 then
                                                                                                                                                                                                                              match f_F_init (st258.2.2.2 4) (xsN (xsR st258 9 i259 (1 : Int32).toNatClampNeg (some (st251.2.2.2 4))) 4) with
                                                                                                                                                                                                                              | none => none
                                                                                                                                                                                                                              | some (_, st265) =>
                                                                                                                                                                                                                                match (xsR st258 9 i259 (1 : Int32).toNatClampNeg (some (st251.2.2.2 4))).2.2.1 0 x0 3 with
                                                                                                                                                                                                                                | none => none
                                                                                                                                                                                                                                | some i266 =>
                                                                                                                                                                                                                                  if x_in 2 6 then
                                                                                                                                                                                                                                    match f_F_init (st265.2.2.2 4) (xsN (xsR st265 9 i266 (2 : Int32).toNatClampNeg (some (st258.2.2.2 4))) 4) with
                                                                                                                                                                                                                                    | none => none
                                                                                                                                                                                                                                    | some (_, st272) =>
                                                                                                                                                                                                                                      match (xsR st265 9 i266 (2 : Int32).toNatClampNeg (some (st258.2.2.2 4))).2.2.1 0 x0 3 with
                                                                                                                                                                                                                                      | none => none
                                                                                                                                                                                                                                      | some i273 =>
                                                                                                                                                                                                                                        if x_in 3 6 then
                                                                                                                                                                                                                                          match f_F_init (st272.2.2.2 4) (xsN (xsR st272 9 i273 (3 : Int32).toNatClampNeg (some (st265.2.2.2 4))) 4) with
                                                                                                                                                                                                                                          | none => none
                                                                                                                                                                                                                                          | some (_, st279) =>
                                                                                                                                                                                                                                            match (xsR st272 9 i273 (3 : Int32).toNatClampNeg (some (st265.2.2.2 4))).2.2.1 0 x0 3 with
                                                                                                                                                                                                                                            | none => none
                                                                                                                                                                                                                                            | some i280 =>
                                                                                                                                                                                                                                              if x_in 4 6 then
                                                                                                                                                                                                                                                match f_F_init (st279.2.2.2 4) (xsN (xsR st279 9 i280 (4 : Int32).toNatClampNeg (some (st272.2.2.2 4))) 4) with
                                                                                                                                                                                                                                                | none => none
                                                                                                                                                                                                                                                | some (_, st286) =>
                                                                                                                                                                                                                                                  match (xsR st279 9 i280 (4 : Int32).toNatClampNeg (some (st272.2.2.2 4))).2.2.1 0 x0 3 with
                                                                                                                                                                                                                                                  | none => none
                                                                                                                                                                                                                                                  | some i287 =>
                                                                                                                                                                                                                                                    if x_in 5 6 then
                                                                                                                                                                                                                                                      some ((), xsR st286 9 i287 (5 : Int32).toNatClampNeg (some (st279.2.2.2 4)))
                                                                                                                                                                                                                                                    else none
                                                                                                                                                                                                                                              else none
                                                                                                                                                                                                                                        else none
                                                                                                                                                                                                                                  else none
                                                                                                                                                                                                                            else none
                                                                                                                                                                                                                      else none
                                                                                                                                                                                                                else none
                                                                                                                                                                                                          else none
                                                                                                                                                                                                    else none
                                                                                                                                                                                              else none
                                                                                                                                                                                        else none
                                                                                                                                                                                  else none
                                                                                                                                                                            else none
                                                                                                                                                                      else none
                                                                                                                                                                else none
                                                                                                                                                          else none
                                                                                                                                                    else none
                                                                                                                                              else none
                                                                                                                                        else none
                                                                                                                                  else none
                                                                                                                            else none
                                                                                                                      else none
                                                                                                                else none
                                                                                                          else none
                                                                                                    else none
                                                                                              else none
                                                                                        else none
                                                                                  else none
                                                                            else none
                                                                      else none
                                                                else none
                                                          else none
                                                    else none
                                              else none
                                        else none
                                  else none
                            else none
                      else none
                else none
          else none
set_option maxRecDepth 100000 in
set_option maxHeartbeats 4000000 in
theorem m_D_init (l : Launch) {x0 : Nat} {st : XS} {r : Unit} {st2 : XS} (h : f_D_init x0 st = some (r, st2)) : x_M l M_D_init rm_D_init [xR 0 (some (x0))] st (.inl (none)) st2 74 1206 := by
  refine x_enter (Nat.le_of_ble_eq_true rfl) ?_
  intro p e s m below meth c D cA g args B C
  have hret := B.2.2.2.2.2.2.2.2.1
  have hmn := B.2.2.2.2.2.2.2.1
  have hex := B.2.2.2.2.2.2.2.2.2.1
  unfold f_D_init at h
  refine x_aload_n (pc := 0) C (d_D_init 0 rfl) rfl 0 rfl ?_
  refine x_oinit (pc := 1) C w_20 w_21 w_22 (by decide) (Nat.le_of_ble_eq_true rfl) (d_D_init 1 rfl) ?_
  refine x_aload_n (pc := 4) C (d_D_init 2 rfl) rfl 0 rfl ?_
  refine x_bipush (pc := 5) (v := 8) C (by decide) (d_D_init 3 rfl) ?_
  refine x_anewn (n := st.2.2.2 6) (pc := 7) (by rfl) C ar_6 w_23 (C.2.2.2.2.2.2.2.2.2.2.2.2.1 _ (by decide)) (by decide) (by decide) (by decide) (Nat.le_of_ble_eq_true rfl) (Nat.le_of_ble_eq_true rfl) (d_D_init 4 rfl) ?_
  refine x_putR (pc := 10) C fl_D_11 (pf_D_11 hmn) rfl (Or.inr rfl) ty_0_0 (d_D_init 5 rfl) ?_
  refine x_aload_n (pc := 13) C (d_D_init 6 rfl) rfl 0 rfl ?_
  refine x_bipush (pc := 14) (v := 20) C (by decide) (d_D_init 7 rfl) ?_
  refine x_anewn (n := st.2.2.2 7) (pc := 16) (by rfl) C ar_7 w_25 (C.2.2.2.2.2.2.2.2.2.2.2.2.1 _ (by decide)) (by decide) (by decide) (by decide) (Nat.le_of_ble_eq_true rfl) (Nat.le_of_ble_eq_true rfl) (d_D_init 8 rfl) ?_
  refine x_putR (pc := 19) C fl_D_17 (pf_D_17 hmn) rfl (Or.inr rfl) ty_0_1 (d_D_init 9 rfl) ?_
  refine x_aload_n (pc := 22) C (d_D_init 10 rfl) rfl 0 rfl ?_
  refine x_bipush (pc := 23) (v := 6) C (by decide) (d_D_init 11 rfl) ?_
  refine x_anewn (n := st.2.2.2 8) (pc := 25) (by rfl) C ar_8 w_27 (C.2.2.2.2.2.2.2.2.2.2.2.2.1 _ (by decide)) (by decide) (by decide) (by decide) (Nat.le_of_ble_eq_true rfl) (Nat.le_of_ble_eq_true rfl) (d_D_init 12 rfl) ?_
  refine x_putR (pc := 28) C fl_D_23 (pf_D_23 hmn) rfl (Or.inr rfl) ty_0_2 (d_D_init 13 rfl) ?_
  refine x_aload_n (pc := 31) C (d_D_init 14 rfl) rfl 0 rfl ?_
  refine x_bipush (pc := 32) (v := 6) C (by decide) (d_D_init 15 rfl) ?_
  refine x_anewn (n := st.2.2.2 9) (pc := 34) (by rfl) C ar_9 w_29 (C.2.2.2.2.2.2.2.2.2.2.2.2.1 _ (by decide)) (by decide) (by decide) (by decide) (Nat.le_of_ble_eq_true rfl) (Nat.le_of_ble_eq_true rfl) (d_D_init 16 rfl) ?_
  refine x_putR (pc := 37) C fl_D_29 (pf_D_29 hmn) rfl (Or.inr rfl) ty_0_3 (d_D_init 17 rfl) ?_
  refine x_aload_n (pc := 40) C (d_D_init 18 rfl) rfl 0 rfl ?_
  refine x_newn (n := st.2.2.2 5) (pc := 41) (q := 5) (by rfl) C rfl rfl w_31 w_32 w_2 df_5 (Nat.le_of_ble_eq_true rfl) (Nat.le_of_ble_eq_true rfl) (d_D_init 19 rfl) ?_
  refine x_dup (pc := 44) C rfl (d_D_init 20 rfl) ?_
  cases c1 : f_B_init (st.2.2.2 5) (xsN (xsR (xsN (xsR (xsN (xsR (xsN (xsR (xsN st 6) 0 x0 0 (some (st.2.2.2 6))) 7) 0 x0 1 (some (st.2.2.2 7))) 8) 0 x0 2 (some (st.2.2.2 8))) 9) 0 x0 3 (some (st.2.2.2 9))) 5) with
  | none => rw [c1] at h; cases h
  | some w332 =>
    obtain ⟨v2, st3⟩ := w332
    rw [c1] at h
    dsimp only at h
    refine x_callI (mc := 1) (ms := 64) (pc := 45) (bL := []) (K := [xR 5 (some (st.2.2.2 5)), xR 0 (some (x0))]) C cs_D_35 (m_B_init l c1 : x_M l _ _ _ _ (.inl none) _ 1 64) (by decide) rfl (Nat.le_of_ble_eq_true rfl) (d_D_init 21 rfl) ?_
    refine x_putR (pc := 48) C fl_D_36 (pf_D_36 hmn) rfl (Or.inr rfl) ty_0_4 (d_D_init 22 rfl) ?_
    refine x_aload_n (pc := 51) C (d_D_init 23 rfl) rfl 0 rfl ?_
    refine x_newn (n := st3.2.2.2 5) (pc := 52) (q := 5) (by rfl) C rfl rfl w_31 w_32 w_2 df_5 (Nat.le_of_ble_eq_true rfl) (Nat.le_of_ble_eq_true rfl) (d_D_init 24 rfl) ?_
    refine x_dup (pc := 55) C rfl (d_D_init 25 rfl) ?_
    cases c4 : f_B_init (st3.2.2.2 5) (xsN (xsR st3 0 x0 4 (some (st.2.2.2 5))) 5) with
    | none => rw [c4] at h; cases h
    | some w331 =>
      obtain ⟨v5, st6⟩ := w331
      rw [c4] at h
      dsimp only at h
      refine x_callI (mc := 1) (ms := 64) (pc := 56) (bL := []) (K := [xR 5 (some (st3.2.2.2 5)), xR 0 (some (x0))]) C cs_D_35 (m_B_init l c4 : x_M l _ _ _ _ (.inl none) _ 1 64) (by decide) rfl (Nat.le_of_ble_eq_true rfl) (d_D_init 26 rfl) ?_
      refine x_putR (pc := 59) C fl_D_40 (pf_D_40 hmn) rfl (Or.inr rfl) ty_0_5 (d_D_init 27 rfl) ?_
      refine x_aload_n (pc := 62) C (d_D_init 28 rfl) rfl 0 rfl ?_
      refine x_iconst (pc := 63) (v := 0) C (by decide) (d_D_init 29 rfl) ?_
      refine x_putI (pc := 64) C fl_D_43 (pf_D_43 _) rfl ty_0_6 (d_D_init 30 rfl) ?_
      refine x_iconst (pc := 67) (v := 0) C (by decide) (d_D_init 31 rfl) ?_
      refine x_istore_n (pc := 68) (L2 := [(1, xI (0)), (0, xR 0 (some (x0)))]) C (d_D_init 32 rfl) rfl (by decide) rfl ?_
      refine x_iload_n (pc := 69) C (d_D_init 33 rfl) rfl 0 rfl ?_
      refine x_bipush (pc := 70) (v := 8) C (by decide) (d_D_init 34 rfl) ?_
      refine x_icmp_ge (pc := 72) (tgt := 94) C (d_D_init 35 rfl) (by decide) (fun c7 => absurd c7 (by decide)) (fun c7 => ?_)
      refine x_aload_n (pc := 75) C (d_D_init 36 rfl) rfl 1 rfl ?_
      refine x_getR (pc := 76) (t := 6) C fl_D_11 rfl rfl (d_D_init 37 rfl) ?_
      refine x_iload_n (pc := 79) C (d_D_init 38 rfl) rfl 0 rfl ?_
      refine x_newn (n := st6.2.2.2 1) (pc := 80) (q := 1) (by rfl) C rfl rfl w_23 w_49 w_3 df_1 (Nat.le_of_ble_eq_true rfl) (Nat.le_of_ble_eq_true rfl) (d_D_init 39 rfl) ?_
      refine x_dup (pc := 83) C rfl (d_D_init 40 rfl) ?_
      cases c8 : f_P_init (st6.2.2.2 1) (xsN (xsI (xsR st6 0 x0 5 (some (st3.2.2.2 5))) 0 x0 6 0) 1) with
      | none => rw [c8] at h; cases h
      | some w330 =>
        obtain ⟨v9, st10⟩ := w330
        rw [c8] at h
        dsimp only at h
        refine x_callI (mc := 1) (ms := 8) (pc := 84) (bL := []) (K := [xR 1 (some (st6.2.2.2 1)), xI (0), xR 6 ((xsI (xsR st6 0 x0 5 (some (st3.2.2.2 5))) 0 x0 6 0).2.2.1 0 x0 0)]) C cs_D_47 (m_P_init l c8 : x_M l _ _ _ _ (.inl none) _ 1 8) (by decide) rfl (Nat.le_of_ble_eq_true rfl) (d_D_init 41 rfl) ?_
        cases c12 : (xsI (xsR st6 0 x0 5 (some (st3.2.2.2 5))) 0 x0 6 0).2.2.1 0 x0 0 with
        | none => rw [c12] at h; cases h
        | some i11 =>
          rw [c12] at h
          dsimp only at h
          by_cases b13 : x_in 0 8
          · rw [if_pos b13] at h
            refine x_aast (pc := 87) C ar_6 rfl rfl rfl rfl b13 (d_D_init 42 rfl) ?_
            refine x_iinc (pc := 88) (v := 1) (L2 := [(1, xI (1)), (0, xR 0 (some (x0)))]) C (d_D_init 43 rfl) 0 rfl (by decide) (by decide) rfl ?_
            refine x_goto (pc := 91) (tgt := 69) C (d_D_init 44 rfl) (by decide) ?_
            refine x_iload_n (pc := 69) C (d_D_init 33 rfl) rfl 0 rfl ?_
            refine x_bipush (pc := 70) (v := 8) C (by decide) (d_D_init 34 rfl) ?_
            refine x_icmp_ge (pc := 72) (tgt := 94) C (d_D_init 35 rfl) (by decide) (fun c14 => absurd c14 (by decide)) (fun c14 => ?_)
            refine x_aload_n (pc := 75) C (d_D_init 36 rfl) rfl 1 rfl ?_
            refine x_getR (pc := 76) (t := 6) C fl_D_11 rfl rfl (d_D_init 37 rfl) ?_
            refine x_iload_n (pc := 79) C (d_D_init 38 rfl) rfl 0 rfl ?_
            refine x_newn (n := st10.2.2.2 1) (pc := 80) (q := 1) (by rfl) C rfl rfl w_23 w_49 w_3 df_1 (Nat.le_of_ble_eq_true rfl) (Nat.le_of_ble_eq_true rfl) (d_D_init 39 rfl) ?_
            refine x_dup (pc := 83) C rfl (d_D_init 40 rfl) ?_
            cases c15 : f_P_init (st10.2.2.2 1) (xsN (xsR st10 6 i11 (0 : Int32).toNatClampNeg (some (st6.2.2.2 1))) 1) with
            | none => rw [c15] at h; cases h
            | some w329 =>
              obtain ⟨v16, st17⟩ := w329
              rw [c15] at h
              dsimp only at h
              refine x_callI (mc := 1) (ms := 8) (pc := 84) (bL := []) (K := [xR 1 (some (st10.2.2.2 1)), xI (1), xR 6 ((xsR st10 6 i11 (0 : Int32).toNatClampNeg (some (st6.2.2.2 1))).2.2.1 0 x0 0)]) C cs_D_47 (m_P_init l c15 : x_M l _ _ _ _ (.inl none) _ 1 8) (by decide) rfl (Nat.le_of_ble_eq_true rfl) (d_D_init 41 rfl) ?_
              cases c19 : (xsR st10 6 i11 (0 : Int32).toNatClampNeg (some (st6.2.2.2 1))).2.2.1 0 x0 0 with
              | none => rw [c19] at h; cases h
              | some i18 =>
                rw [c19] at h
                dsimp only at h
                by_cases b20 : x_in 1 8
                · rw [if_pos b20] at h
                  refine x_aast (pc := 87) C ar_6 rfl rfl rfl rfl b20 (d_D_init 42 rfl) ?_
                  refine x_iinc (pc := 88) (v := 2) (L2 := [(1, xI (2)), (0, xR 0 (some (x0)))]) C (d_D_init 43 rfl) 0 rfl (by decide) (by decide) rfl ?_
                  refine x_goto (pc := 91) (tgt := 69) C (d_D_init 44 rfl) (by decide) ?_
                  refine x_iload_n (pc := 69) C (d_D_init 33 rfl) rfl 0 rfl ?_
                  refine x_bipush (pc := 70) (v := 8) C (by decide) (d_D_init 34 rfl) ?_
                  refine x_icmp_ge (pc := 72) (tgt := 94) C (d_D_init 35 rfl) (by decide) (fun c21 => absurd c21 (by decide)) (fun c21 => ?_)
                  refine x_aload_n (pc := 75) C (d_D_init 36 rfl) rfl 1 rfl ?_
                  refine x_getR (pc := 76) (t := 6) C fl_D_11 rfl rfl (d_D_init 37 rfl) ?_
                  refine x_iload_n (pc := 79) C (d_D_init 38 rfl) rfl 0 rfl ?_
                  refine x_newn (n := st17.2.2.2 1) (pc := 80) (q := 1) (by rfl) C rfl rfl w_23 w_49 w_3 df_1 (Nat.le_of_ble_eq_true rfl) (Nat.le_of_ble_eq_true rfl) (d_D_init 39 rfl) ?_
                  refine x_dup (pc := 83) C rfl (d_D_init 40 rfl) ?_
                  cases c22 : f_P_init (st17.2.2.2 1) (xsN (xsR st17 6 i18 (1 : Int32).toNatClampNeg (some (st10.2.2.2 1))) 1) with
                  | none => rw [c22] at h; cases h
                  | some w328 =>
                    obtain ⟨v23, st24⟩ := w328
                    rw [c22] at h
                    dsimp only at h
                    refine x_callI (mc := 1) (ms := 8) (pc := 84) (bL := []) (K := [xR 1 (some (st17.2.2.2 1)), xI (2), xR 6 ((xsR st17 6 i18 (1 : Int32).toNatClampNeg (some (st10.2.2.2 1))).2.2.1 0 x0 0)]) C cs_D_47 (m_P_init l c22 : x_M l _ _ _ _ (.inl none) _ 1 8) (by decide) rfl (Nat.le_of_ble_eq_true rfl) (d_D_init 41 rfl) ?_
                    cases c26 : (xsR st17 6 i18 (1 : Int32).toNatClampNeg (some (st10.2.2.2 1))).2.2.1 0 x0 0 with
                    | none => rw [c26] at h; cases h
                    | some i25 =>
                      rw [c26] at h
                      dsimp only at h
                      by_cases b27 : x_in 2 8
                      · rw [if_pos b27] at h
                        refine x_aast (pc := 87) C ar_6 rfl rfl rfl rfl b27 (d_D_init 42 rfl) ?_
                        refine x_iinc (pc := 88) (v := 3) (L2 := [(1, xI (3)), (0, xR 0 (some (x0)))]) C (d_D_init 43 rfl) 0 rfl (by decide) (by decide) rfl ?_
                        refine x_goto (pc := 91) (tgt := 69) C (d_D_init 44 rfl) (by decide) ?_
                        refine x_iload_n (pc := 69) C (d_D_init 33 rfl) rfl 0 rfl ?_
                        refine x_bipush (pc := 70) (v := 8) C (by decide) (d_D_init 34 rfl) ?_
                        refine x_icmp_ge (pc := 72) (tgt := 94) C (d_D_init 35 rfl) (by decide) (fun c28 => absurd c28 (by decide)) (fun c28 => ?_)
                        refine x_aload_n (pc := 75) C (d_D_init 36 rfl) rfl 1 rfl ?_
                        refine x_getR (pc := 76) (t := 6) C fl_D_11 rfl rfl (d_D_init 37 rfl) ?_
                        refine x_iload_n (pc := 79) C (d_D_init 38 rfl) rfl 0 rfl ?_
                        refine x_newn (n := st24.2.2.2 1) (pc := 80) (q := 1) (by rfl) C rfl rfl w_23 w_49 w_3 df_1 (Nat.le_of_ble_eq_true rfl) (Nat.le_of_ble_eq_true rfl) (d_D_init 39 rfl) ?_
                        refine x_dup (pc := 83) C rfl (d_D_init 40 rfl) ?_
                        cases c29 : f_P_init (st24.2.2.2 1) (xsN (xsR st24 6 i25 (2 : Int32).toNatClampNeg (some (st17.2.2.2 1))) 1) with
                        | none => rw [c29] at h; cases h
                        | some w327 =>
                          obtain ⟨v30, st31⟩ := w327
                          rw [c29] at h
                          dsimp only at h
                          refine x_callI (mc := 1) (ms := 8) (pc := 84) (bL := []) (K := [xR 1 (some (st24.2.2.2 1)), xI (3), xR 6 ((xsR st24 6 i25 (2 : Int32).toNatClampNeg (some (st17.2.2.2 1))).2.2.1 0 x0 0)]) C cs_D_47 (m_P_init l c29 : x_M l _ _ _ _ (.inl none) _ 1 8) (by decide) rfl (Nat.le_of_ble_eq_true rfl) (d_D_init 41 rfl) ?_
                          cases c33 : (xsR st24 6 i25 (2 : Int32).toNatClampNeg (some (st17.2.2.2 1))).2.2.1 0 x0 0 with
                          | none => rw [c33] at h; cases h
                          | some i32 =>
                            rw [c33] at h
                            dsimp only at h
                            by_cases b34 : x_in 3 8
                            · rw [if_pos b34] at h
                              refine x_aast (pc := 87) C ar_6 rfl rfl rfl rfl b34 (d_D_init 42 rfl) ?_
                              refine x_iinc (pc := 88) (v := 4) (L2 := [(1, xI (4)), (0, xR 0 (some (x0)))]) C (d_D_init 43 rfl) 0 rfl (by decide) (by decide) rfl ?_
                              refine x_goto (pc := 91) (tgt := 69) C (d_D_init 44 rfl) (by decide) ?_
                              refine x_iload_n (pc := 69) C (d_D_init 33 rfl) rfl 0 rfl ?_
                              refine x_bipush (pc := 70) (v := 8) C (by decide) (d_D_init 34 rfl) ?_
                              refine x_icmp_ge (pc := 72) (tgt := 94) C (d_D_init 35 rfl) (by decide) (fun c35 => absurd c35 (by decide)) (fun c35 => ?_)
                              refine x_aload_n (pc := 75) C (d_D_init 36 rfl) rfl 1 rfl ?_
                              refine x_getR (pc := 76) (t := 6) C fl_D_11 rfl rfl (d_D_init 37 rfl) ?_
                              refine x_iload_n (pc := 79) C (d_D_init 38 rfl) rfl 0 rfl ?_
                              refine x_newn (n := st31.2.2.2 1) (pc := 80) (q := 1) (by rfl) C rfl rfl w_23 w_49 w_3 df_1 (Nat.le_of_ble_eq_true rfl) (Nat.le_of_ble_eq_true rfl) (d_D_init 39 rfl) ?_
                              refine x_dup (pc := 83) C rfl (d_D_init 40 rfl) ?_
                              cases c36 : f_P_init (st31.2.2.2 1) (xsN (xsR st31 6 i32 (3 : Int32).toNatClampNeg (some (st24.2.2.2 1))) 1) with
                              | none => rw [c36] at h; cases h
                              | some w326 =>
                                obtain ⟨v37, st38⟩ := w326
                                rw [c36] at h
                                dsimp only at h
                                refine x_callI (mc := 1) (ms := 8) (pc := 84) (bL := []) (K := [xR 1 (some (st31.2.2.2 1)), xI (4), xR 6 ((xsR st31 6 i32 (3 : Int32).toNatClampNeg (some (st24.2.2.2 1))).2.2.1 0 x0 0)]) C cs_D_47 (m_P_init l c36 : x_M l _ _ _ _ (.inl none) _ 1 8) (by decide) rfl (Nat.le_of_ble_eq_true rfl) (d_D_init 41 rfl) ?_
                                cases c40 : (xsR st31 6 i32 (3 : Int32).toNatClampNeg (some (st24.2.2.2 1))).2.2.1 0 x0 0 with
                                | none => rw [c40] at h; cases h
                                | some i39 =>
                                  rw [c40] at h
                                  dsimp only at h
                                  by_cases b41 : x_in 4 8
                                  · rw [if_pos b41] at h
                                    refine x_aast (pc := 87) C ar_6 rfl rfl rfl rfl b41 (d_D_init 42 rfl) ?_
                                    refine x_iinc (pc := 88) (v := 5) (L2 := [(1, xI (5)), (0, xR 0 (some (x0)))]) C (d_D_init 43 rfl) 0 rfl (by decide) (by decide) rfl ?_
                                    refine x_goto (pc := 91) (tgt := 69) C (d_D_init 44 rfl) (by decide) ?_
                                    refine x_iload_n (pc := 69) C (d_D_init 33 rfl) rfl 0 rfl ?_
                                    refine x_bipush (pc := 70) (v := 8) C (by decide) (d_D_init 34 rfl) ?_
                                    refine x_icmp_ge (pc := 72) (tgt := 94) C (d_D_init 35 rfl) (by decide) (fun c42 => absurd c42 (by decide)) (fun c42 => ?_)
                                    refine x_aload_n (pc := 75) C (d_D_init 36 rfl) rfl 1 rfl ?_
                                    refine x_getR (pc := 76) (t := 6) C fl_D_11 rfl rfl (d_D_init 37 rfl) ?_
                                    refine x_iload_n (pc := 79) C (d_D_init 38 rfl) rfl 0 rfl ?_
                                    refine x_newn (n := st38.2.2.2 1) (pc := 80) (q := 1) (by rfl) C rfl rfl w_23 w_49 w_3 df_1 (Nat.le_of_ble_eq_true rfl) (Nat.le_of_ble_eq_true rfl) (d_D_init 39 rfl) ?_
                                    refine x_dup (pc := 83) C rfl (d_D_init 40 rfl) ?_
                                    cases c43 : f_P_init (st38.2.2.2 1) (xsN (xsR st38 6 i39 (4 : Int32).toNatClampNeg (some (st31.2.2.2 1))) 1) with
                                    | none => rw [c43] at h; cases h
                                    | some w325 =>
                                      obtain ⟨v44, st45⟩ := w325
                                      rw [c43] at h
                                      dsimp only at h
                                      refine x_callI (mc := 1) (ms := 8) (pc := 84) (bL := []) (K := [xR 1 (some (st38.2.2.2 1)), xI (5), xR 6 ((xsR st38 6 i39 (4 : Int32).toNatClampNeg (some (st31.2.2.2 1))).2.2.1 0 x0 0)]) C cs_D_47 (m_P_init l c43 : x_M l _ _ _ _ (.inl none) _ 1 8) (by decide) rfl (Nat.le_of_ble_eq_true rfl) (d_D_init 41 rfl) ?_
                                      cases c47 : (xsR st38 6 i39 (4 : Int32).toNatClampNeg (some (st31.2.2.2 1))).2.2.1 0 x0 0 with
                                      | none => rw [c47] at h; cases h
                                      | some i46 =>
                                        rw [c47] at h
                                        dsimp only at h
                                        by_cases b48 : x_in 5 8
                                        · rw [if_pos b48] at h
                                          refine x_aast (pc := 87) C ar_6 rfl rfl rfl rfl b48 (d_D_init 42 rfl) ?_
                                          refine x_iinc (pc := 88) (v := 6) (L2 := [(1, xI (6)), (0, xR 0 (some (x0)))]) C (d_D_init 43 rfl) 0 rfl (by decide) (by decide) rfl ?_
                                          refine x_goto (pc := 91) (tgt := 69) C (d_D_init 44 rfl) (by decide) ?_
                                          refine x_iload_n (pc := 69) C (d_D_init 33 rfl) rfl 0 rfl ?_
                                          refine x_bipush (pc := 70) (v := 8) C (by decide) (d_D_init 34 rfl) ?_
                                          refine x_icmp_ge (pc := 72) (tgt := 94) C (d_D_init 35 rfl) (by decide) (fun c49 => absurd c49 (by decide)) (fun c49 => ?_)
                                          refine x_aload_n (pc := 75) C (d_D_init 36 rfl) rfl 1 rfl ?_
                                          refine x_getR (pc := 76) (t := 6) C fl_D_11 rfl rfl (d_D_init 37 rfl) ?_
                                          refine x_iload_n (pc := 79) C (d_D_init 38 rfl) rfl 0 rfl ?_
                                          refine x_newn (n := st45.2.2.2 1) (pc := 80) (q := 1) (by rfl) C rfl rfl w_23 w_49 w_3 df_1 (Nat.le_of_ble_eq_true rfl) (Nat.le_of_ble_eq_true rfl) (d_D_init 39 rfl) ?_
                                          refine x_dup (pc := 83) C rfl (d_D_init 40 rfl) ?_
                                          cases c50 : f_P_init (st45.2.2.2 1) (xsN (xsR st45 6 i46 (5 : Int32).toNatClampNeg (some (st38.2.2.2 1))) 1) with
                                          | none => rw [c50] at h; cases h
                                          | some w324 =>
                                            obtain ⟨v51, st52⟩ := w324
                                            rw [c50] at h
                                            dsimp only at h
                                            refine x_callI (mc := 1) (ms := 8) (pc := 84) (bL := []) (K := [xR 1 (some (st45.2.2.2 1)), xI (6), xR 6 ((xsR st45 6 i46 (5 : Int32).toNatClampNeg (some (st38.2.2.2 1))).2.2.1 0 x0 0)]) C cs_D_47 (m_P_init l c50 : x_M l _ _ _ _ (.inl none) _ 1 8) (by decide) rfl (Nat.le_of_ble_eq_true rfl) (d_D_init 41 rfl) ?_
                                            cases c54 : (xsR st45 6 i46 (5 : Int32).toNatClampNeg (some (st38.2.2.2 1))).2.2.1 0 x0 0 with
                                            | none => rw [c54] at h; cases h
                                            | some i53 =>
                                              rw [c54] at h
                                              dsimp only at h
                                              by_cases b55 : x_in 6 8
                                              · rw [if_pos b55] at h
                                                refine x_aast (pc := 87) C ar_6 rfl rfl rfl rfl b55 (d_D_init 42 rfl) ?_
                                                refine x_iinc (pc := 88) (v := 7) (L2 := [(1, xI (7)), (0, xR 0 (some (x0)))]) C (d_D_init 43 rfl) 0 rfl (by decide) (by decide) rfl ?_
                                                refine x_goto (pc := 91) (tgt := 69) C (d_D_init 44 rfl) (by decide) ?_
                                                refine x_iload_n (pc := 69) C (d_D_init 33 rfl) rfl 0 rfl ?_
                                                refine x_bipush (pc := 70) (v := 8) C (by decide) (d_D_init 34 rfl) ?_
                                                refine x_icmp_ge (pc := 72) (tgt := 94) C (d_D_init 35 rfl) (by decide) (fun c56 => absurd c56 (by decide)) (fun c56 => ?_)
                                                refine x_aload_n (pc := 75) C (d_D_init 36 rfl) rfl 1 rfl ?_
                                                refine x_getR (pc := 76) (t := 6) C fl_D_11 rfl rfl (d_D_init 37 rfl) ?_
                                                refine x_iload_n (pc := 79) C (d_D_init 38 rfl) rfl 0 rfl ?_
                                                refine x_newn (n := st52.2.2.2 1) (pc := 80) (q := 1) (by rfl) C rfl rfl w_23 w_49 w_3 df_1 (Nat.le_of_ble_eq_true rfl) (Nat.le_of_ble_eq_true rfl) (d_D_init 39 rfl) ?_
                                                refine x_dup (pc := 83) C rfl (d_D_init 40 rfl) ?_
                                                cases c57 : f_P_init (st52.2.2.2 1) (xsN (xsR st52 6 i53 (6 : Int32).toNatClampNeg (some (st45.2.2.2 1))) 1) with
                                                | none => rw [c57] at h; cases h
                                                | some w323 =>
                                                  obtain ⟨v58, st59⟩ := w323
                                                  rw [c57] at h
                                                  dsimp only at h
                                                  refine x_callI (mc := 1) (ms := 8) (pc := 84) (bL := []) (K := [xR 1 (some (st52.2.2.2 1)), xI (7), xR 6 ((xsR st52 6 i53 (6 : Int32).toNatClampNeg (some (st45.2.2.2 1))).2.2.1 0 x0 0)]) C cs_D_47 (m_P_init l c57 : x_M l _ _ _ _ (.inl none) _ 1 8) (by decide) rfl (Nat.le_of_ble_eq_true rfl) (d_D_init 41 rfl) ?_
                                                  cases c61 : (xsR st52 6 i53 (6 : Int32).toNatClampNeg (some (st45.2.2.2 1))).2.2.1 0 x0 0 with
                                                  | none => rw [c61] at h; cases h
                                                  | some i60 =>
                                                    rw [c61] at h
                                                    dsimp only at h
                                                    by_cases b62 : x_in 7 8
                                                    · rw [if_pos b62] at h
                                                      refine x_aast (pc := 87) C ar_6 rfl rfl rfl rfl b62 (d_D_init 42 rfl) ?_
                                                      refine x_iinc (pc := 88) (v := 8) (L2 := [(1, xI (8)), (0, xR 0 (some (x0)))]) C (d_D_init 43 rfl) 0 rfl (by decide) (by decide) rfl ?_
                                                      refine x_goto (pc := 91) (tgt := 69) C (d_D_init 44 rfl) (by decide) ?_
                                                      refine x_iload_n (pc := 69) C (d_D_init 33 rfl) rfl 0 rfl ?_
                                                      refine x_bipush (pc := 70) (v := 8) C (by decide) (d_D_init 34 rfl) ?_
                                                      refine x_icmp_ge (pc := 72) (tgt := 94) C (d_D_init 35 rfl) (by decide) (fun c63 => ?_) (fun c63 => absurd c63 (by decide))
                                                      refine x_iconst (pc := 94) (v := 0) C (by decide) (d_D_init 45 rfl) ?_
                                                      refine x_istore_n (pc := 95) (L2 := [(1, xI (0)), (0, xR 0 (some (x0)))]) C (d_D_init 46 rfl) rfl (by decide) rfl ?_
                                                      refine x_iload_n (pc := 96) C (d_D_init 47 rfl) rfl 0 rfl ?_
                                                      refine x_bipush (pc := 97) (v := 20) C (by decide) (d_D_init 48 rfl) ?_
                                                      refine x_icmp_ge (pc := 99) (tgt := 121) C (d_D_init 49 rfl) (by decide) (fun c64 => absurd c64 (by decide)) (fun c64 => ?_)
                                                      refine x_aload_n (pc := 102) C (d_D_init 50 rfl) rfl 1 rfl ?_
                                                      refine x_getR (pc := 103) (t := 7) C fl_D_17 rfl rfl (d_D_init 51 rfl) ?_
                                                      refine x_iload_n (pc := 106) C (d_D_init 52 rfl) rfl 0 rfl ?_
                                                      refine x_newn (n := st59.2.2.2 2) (pc := 107) (q := 2) (by rfl) C rfl rfl w_25 w_75 w_4 df_2 (Nat.le_of_ble_eq_true rfl) (Nat.le_of_ble_eq_true rfl) (d_D_init 53 rfl) ?_
                                                      refine x_dup (pc := 110) C rfl (d_D_init 54 rfl) ?_
                                                      cases c65 : f_O_init (st59.2.2.2 2) (xsN (xsR st59 6 i60 (7 : Int32).toNatClampNeg (some (st52.2.2.2 1))) 2) with
                                                      | none => rw [c65] at h; cases h
                                                      | some w322 =>
                                                        obtain ⟨v66, st67⟩ := w322
                                                        rw [c65] at h
                                                        dsimp only at h
                                                        refine x_callI (mc := 0) (ms := 0) (pc := 111) (bL := []) (K := [xR 2 (some (st59.2.2.2 2)), xI (0), xR 7 ((xsR st59 6 i60 (7 : Int32).toNatClampNeg (some (st52.2.2.2 1))).2.2.1 0 x0 1)]) C cs_D_48 (m_O_init l c65 : x_M l _ _ _ _ (.inl none) _ 0 0) (by decide) rfl (Nat.le_of_ble_eq_true rfl) (d_D_init 55 rfl) ?_
                                                        cases c69 : (xsR st59 6 i60 (7 : Int32).toNatClampNeg (some (st52.2.2.2 1))).2.2.1 0 x0 1 with
                                                        | none => rw [c69] at h; cases h
                                                        | some i68 =>
                                                          rw [c69] at h
                                                          dsimp only at h
                                                          by_cases b70 : x_in 0 20
                                                          · rw [if_pos b70] at h
                                                            refine x_aast (pc := 114) C ar_7 rfl rfl rfl rfl b70 (d_D_init 56 rfl) ?_
                                                            refine x_iinc (pc := 115) (v := 1) (L2 := [(1, xI (1)), (0, xR 0 (some (x0)))]) C (d_D_init 57 rfl) 0 rfl (by decide) (by decide) rfl ?_
                                                            refine x_goto (pc := 118) (tgt := 96) C (d_D_init 58 rfl) (by decide) ?_
                                                            refine x_iload_n (pc := 96) C (d_D_init 47 rfl) rfl 0 rfl ?_
                                                            refine x_bipush (pc := 97) (v := 20) C (by decide) (d_D_init 48 rfl) ?_
                                                            refine x_icmp_ge (pc := 99) (tgt := 121) C (d_D_init 49 rfl) (by decide) (fun c71 => absurd c71 (by decide)) (fun c71 => ?_)
                                                            refine x_aload_n (pc := 102) C (d_D_init 50 rfl) rfl 1 rfl ?_
                                                            refine x_getR (pc := 103) (t := 7) C fl_D_17 rfl rfl (d_D_init 51 rfl) ?_
                                                            refine x_iload_n (pc := 106) C (d_D_init 52 rfl) rfl 0 rfl ?_
                                                            refine x_newn (n := st67.2.2.2 2) (pc := 107) (q := 2) (by rfl) C rfl rfl w_25 w_75 w_4 df_2 (Nat.le_of_ble_eq_true rfl) (Nat.le_of_ble_eq_true rfl) (d_D_init 53 rfl) ?_
                                                            refine x_dup (pc := 110) C rfl (d_D_init 54 rfl) ?_
                                                            cases c72 : f_O_init (st67.2.2.2 2) (xsN (xsR st67 7 i68 (0 : Int32).toNatClampNeg (some (st59.2.2.2 2))) 2) with
                                                            | none => rw [c72] at h; cases h
                                                            | some w321 =>
                                                              obtain ⟨v73, st74⟩ := w321
                                                              rw [c72] at h
                                                              dsimp only at h
                                                              refine x_callI (mc := 0) (ms := 0) (pc := 111) (bL := []) (K := [xR 2 (some (st67.2.2.2 2)), xI (1), xR 7 ((xsR st67 7 i68 (0 : Int32).toNatClampNeg (some (st59.2.2.2 2))).2.2.1 0 x0 1)]) C cs_D_48 (m_O_init l c72 : x_M l _ _ _ _ (.inl none) _ 0 0) (by decide) rfl (Nat.le_of_ble_eq_true rfl) (d_D_init 55 rfl) ?_
                                                              cases c76 : (xsR st67 7 i68 (0 : Int32).toNatClampNeg (some (st59.2.2.2 2))).2.2.1 0 x0 1 with
                                                              | none => rw [c76] at h; cases h
                                                              | some i75 =>
                                                                rw [c76] at h
                                                                dsimp only at h
                                                                by_cases b77 : x_in 1 20
                                                                · rw [if_pos b77] at h
                                                                  refine x_aast (pc := 114) C ar_7 rfl rfl rfl rfl b77 (d_D_init 56 rfl) ?_
                                                                  refine x_iinc (pc := 115) (v := 2) (L2 := [(1, xI (2)), (0, xR 0 (some (x0)))]) C (d_D_init 57 rfl) 0 rfl (by decide) (by decide) rfl ?_
                                                                  refine x_goto (pc := 118) (tgt := 96) C (d_D_init 58 rfl) (by decide) ?_
                                                                  refine x_iload_n (pc := 96) C (d_D_init 47 rfl) rfl 0 rfl ?_
                                                                  refine x_bipush (pc := 97) (v := 20) C (by decide) (d_D_init 48 rfl) ?_
                                                                  refine x_icmp_ge (pc := 99) (tgt := 121) C (d_D_init 49 rfl) (by decide) (fun c78 => absurd c78 (by decide)) (fun c78 => ?_)
                                                                  refine x_aload_n (pc := 102) C (d_D_init 50 rfl) rfl 1 rfl ?_
                                                                  refine x_getR (pc := 103) (t := 7) C fl_D_17 rfl rfl (d_D_init 51 rfl) ?_
                                                                  refine x_iload_n (pc := 106) C (d_D_init 52 rfl) rfl 0 rfl ?_
                                                                  refine x_newn (n := st74.2.2.2 2) (pc := 107) (q := 2) (by rfl) C rfl rfl w_25 w_75 w_4 df_2 (Nat.le_of_ble_eq_true rfl) (Nat.le_of_ble_eq_true rfl) (d_D_init 53 rfl) ?_
                                                                  refine x_dup (pc := 110) C rfl (d_D_init 54 rfl) ?_
                                                                  cases c79 : f_O_init (st74.2.2.2 2) (xsN (xsR st74 7 i75 (1 : Int32).toNatClampNeg (some (st67.2.2.2 2))) 2) with
                                                                  | none => rw [c79] at h; cases h
                                                                  | some w320 =>
                                                                    obtain ⟨v80, st81⟩ := w320
                                                                    rw [c79] at h
                                                                    dsimp only at h
                                                                    refine x_callI (mc := 0) (ms := 0) (pc := 111) (bL := []) (K := [xR 2 (some (st74.2.2.2 2)), xI (2), xR 7 ((xsR st74 7 i75 (1 : Int32).toNatClampNeg (some (st67.2.2.2 2))).2.2.1 0 x0 1)]) C cs_D_48 (m_O_init l c79 : x_M l _ _ _ _ (.inl none) _ 0 0) (by decide) rfl (Nat.le_of_ble_eq_true rfl) (d_D_init 55 rfl) ?_
                                                                    cases c83 : (xsR st74 7 i75 (1 : Int32).toNatClampNeg (some (st67.2.2.2 2))).2.2.1 0 x0 1 with
                                                                    | none => rw [c83] at h; cases h
                                                                    | some i82 =>
                                                                      rw [c83] at h
                                                                      dsimp only at h
                                                                      by_cases b84 : x_in 2 20
                                                                      · rw [if_pos b84] at h
                                                                        refine x_aast (pc := 114) C ar_7 rfl rfl rfl rfl b84 (d_D_init 56 rfl) ?_
                                                                        refine x_iinc (pc := 115) (v := 3) (L2 := [(1, xI (3)), (0, xR 0 (some (x0)))]) C (d_D_init 57 rfl) 0 rfl (by decide) (by decide) rfl ?_
                                                                        refine x_goto (pc := 118) (tgt := 96) C (d_D_init 58 rfl) (by decide) ?_
                                                                        refine x_iload_n (pc := 96) C (d_D_init 47 rfl) rfl 0 rfl ?_
                                                                        refine x_bipush (pc := 97) (v := 20) C (by decide) (d_D_init 48 rfl) ?_
                                                                        refine x_icmp_ge (pc := 99) (tgt := 121) C (d_D_init 49 rfl) (by decide) (fun c85 => absurd c85 (by decide)) (fun c85 => ?_)
                                                                        refine x_aload_n (pc := 102) C (d_D_init 50 rfl) rfl 1 rfl ?_
                                                                        refine x_getR (pc := 103) (t := 7) C fl_D_17 rfl rfl (d_D_init 51 rfl) ?_
                                                                        refine x_iload_n (pc := 106) C (d_D_init 52 rfl) rfl 0 rfl ?_
                                                                        refine x_newn (n := st81.2.2.2 2) (pc := 107) (q := 2) (by rfl) C rfl rfl w_25 w_75 w_4 df_2 (Nat.le_of_ble_eq_true rfl) (Nat.le_of_ble_eq_true rfl) (d_D_init 53 rfl) ?_
                                                                        refine x_dup (pc := 110) C rfl (d_D_init 54 rfl) ?_
                                                                        cases c86 : f_O_init (st81.2.2.2 2) (xsN (xsR st81 7 i82 (2 : Int32).toNatClampNeg (some (st74.2.2.2 2))) 2) with
                                                                        | none => rw [c86] at h; cases h
                                                                        | some w319 =>
                                                                          obtain ⟨v87, st88⟩ := w319
                                                                          rw [c86] at h
                                                                          dsimp only at h
                                                                          refine x_callI (mc := 0) (ms := 0) (pc := 111) (bL := []) (K := [xR 2 (some (st81.2.2.2 2)), xI (3), xR 7 ((xsR st81 7 i82 (2 : Int32).toNatClampNeg (some (st74.2.2.2 2))).2.2.1 0 x0 1)]) C cs_D_48 (m_O_init l c86 : x_M l _ _ _ _ (.inl none) _ 0 0) (by decide) rfl (Nat.le_of_ble_eq_true rfl) (d_D_init 55 rfl) ?_
                                                                          cases c90 : (xsR st81 7 i82 (2 : Int32).toNatClampNeg (some (st74.2.2.2 2))).2.2.1 0 x0 1 with
                                                                          | none => rw [c90] at h; cases h
                                                                          | some i89 =>
                                                                            rw [c90] at h
                                                                            dsimp only at h
                                                                            by_cases b91 : x_in 3 20
                                                                            · rw [if_pos b91] at h
                                                                              refine x_aast (pc := 114) C ar_7 rfl rfl rfl rfl b91 (d_D_init 56 rfl) ?_
                                                                              refine x_iinc (pc := 115) (v := 4) (L2 := [(1, xI (4)), (0, xR 0 (some (x0)))]) C (d_D_init 57 rfl) 0 rfl (by decide) (by decide) rfl ?_
                                                                              refine x_goto (pc := 118) (tgt := 96) C (d_D_init 58 rfl) (by decide) ?_
                                                                              refine x_iload_n (pc := 96) C (d_D_init 47 rfl) rfl 0 rfl ?_
                                                                              refine x_bipush (pc := 97) (v := 20) C (by decide) (d_D_init 48 rfl) ?_
                                                                              refine x_icmp_ge (pc := 99) (tgt := 121) C (d_D_init 49 rfl) (by decide) (fun c92 => absurd c92 (by decide)) (fun c92 => ?_)
                                                                              refine x_aload_n (pc := 102) C (d_D_init 50 rfl) rfl 1 rfl ?_
                                                                              refine x_getR (pc := 103) (t := 7) C fl_D_17 rfl rfl (d_D_init 51 rfl) ?_
                                                                              refine x_iload_n (pc := 106) C (d_D_init 52 rfl) rfl 0 rfl ?_
                                                                              refine x_newn (n := st88.2.2.2 2) (pc := 107) (q := 2) (by rfl) C rfl rfl w_25 w_75 w_4 df_2 (Nat.le_of_ble_eq_true rfl) (Nat.le_of_ble_eq_true rfl) (d_D_init 53 rfl) ?_
                                                                              refine x_dup (pc := 110) C rfl (d_D_init 54 rfl) ?_
                                                                              cases c93 : f_O_init (st88.2.2.2 2) (xsN (xsR st88 7 i89 (3 : Int32).toNatClampNeg (some (st81.2.2.2 2))) 2) with
                                                                              | none => rw [c93] at h; cases h
                                                                              | some w318 =>
                                                                                obtain ⟨v94, st95⟩ := w318
                                                                                rw [c93] at h
                                                                                dsimp only at h
                                                                                refine x_callI (mc := 0) (ms := 0) (pc := 111) (bL := []) (K := [xR 2 (some (st88.2.2.2 2)), xI (4), xR 7 ((xsR st88 7 i89 (3 : Int32).toNatClampNeg (some (st81.2.2.2 2))).2.2.1 0 x0 1)]) C cs_D_48 (m_O_init l c93 : x_M l _ _ _ _ (.inl none) _ 0 0) (by decide) rfl (Nat.le_of_ble_eq_true rfl) (d_D_init 55 rfl) ?_
                                                                                cases c97 : (xsR st88 7 i89 (3 : Int32).toNatClampNeg (some (st81.2.2.2 2))).2.2.1 0 x0 1 with
                                                                                | none => rw [c97] at h; cases h
                                                                                | some i96 =>
                                                                                  rw [c97] at h
                                                                                  dsimp only at h
                                                                                  by_cases b98 : x_in 4 20
                                                                                  · rw [if_pos b98] at h
                                                                                    refine x_aast (pc := 114) C ar_7 rfl rfl rfl rfl b98 (d_D_init 56 rfl) ?_
                                                                                    refine x_iinc (pc := 115) (v := 5) (L2 := [(1, xI (5)), (0, xR 0 (some (x0)))]) C (d_D_init 57 rfl) 0 rfl (by decide) (by decide) rfl ?_
                                                                                    refine x_goto (pc := 118) (tgt := 96) C (d_D_init 58 rfl) (by decide) ?_
                                                                                    refine x_iload_n (pc := 96) C (d_D_init 47 rfl) rfl 0 rfl ?_
                                                                                    refine x_bipush (pc := 97) (v := 20) C (by decide) (d_D_init 48 rfl) ?_
                                                                                    refine x_icmp_ge (pc := 99) (tgt := 121) C (d_D_init 49 rfl) (by decide) (fun c99 => absurd c99 (by decide)) (fun c99 => ?_)
                                                                                    refine x_aload_n (pc := 102) C (d_D_init 50 rfl) rfl 1 rfl ?_
                                                                                    refine x_getR (pc := 103) (t := 7) C fl_D_17 rfl rfl (d_D_init 51 rfl) ?_
                                                                                    refine x_iload_n (pc := 106) C (d_D_init 52 rfl) rfl 0 rfl ?_
                                                                                    refine x_newn (n := st95.2.2.2 2) (pc := 107) (q := 2) (by rfl) C rfl rfl w_25 w_75 w_4 df_2 (Nat.le_of_ble_eq_true rfl) (Nat.le_of_ble_eq_true rfl) (d_D_init 53 rfl) ?_
                                                                                    refine x_dup (pc := 110) C rfl (d_D_init 54 rfl) ?_
                                                                                    cases c100 : f_O_init (st95.2.2.2 2) (xsN (xsR st95 7 i96 (4 : Int32).toNatClampNeg (some (st88.2.2.2 2))) 2) with
                                                                                    | none => rw [c100] at h; cases h
                                                                                    | some w317 =>
                                                                                      obtain ⟨v101, st102⟩ := w317
                                                                                      rw [c100] at h
                                                                                      dsimp only at h
                                                                                      refine x_callI (mc := 0) (ms := 0) (pc := 111) (bL := []) (K := [xR 2 (some (st95.2.2.2 2)), xI (5), xR 7 ((xsR st95 7 i96 (4 : Int32).toNatClampNeg (some (st88.2.2.2 2))).2.2.1 0 x0 1)]) C cs_D_48 (m_O_init l c100 : x_M l _ _ _ _ (.inl none) _ 0 0) (by decide) rfl (Nat.le_of_ble_eq_true rfl) (d_D_init 55 rfl) ?_
                                                                                      cases c104 : (xsR st95 7 i96 (4 : Int32).toNatClampNeg (some (st88.2.2.2 2))).2.2.1 0 x0 1 with
                                                                                      | none => rw [c104] at h; cases h
                                                                                      | some i103 =>
                                                                                        rw [c104] at h
                                                                                        dsimp only at h
                                                                                        by_cases b105 : x_in 5 20
                                                                                        · rw [if_pos b105] at h
                                                                                          refine x_aast (pc := 114) C ar_7 rfl rfl rfl rfl b105 (d_D_init 56 rfl) ?_
                                                                                          refine x_iinc (pc := 115) (v := 6) (L2 := [(1, xI (6)), (0, xR 0 (some (x0)))]) C (d_D_init 57 rfl) 0 rfl (by decide) (by decide) rfl ?_
                                                                                          refine x_goto (pc := 118) (tgt := 96) C (d_D_init 58 rfl) (by decide) ?_
                                                                                          refine x_iload_n (pc := 96) C (d_D_init 47 rfl) rfl 0 rfl ?_
                                                                                          refine x_bipush (pc := 97) (v := 20) C (by decide) (d_D_init 48 rfl) ?_
                                                                                          refine x_icmp_ge (pc := 99) (tgt := 121) C (d_D_init 49 rfl) (by decide) (fun c106 => absurd c106 (by decide)) (fun c106 => ?_)
                                                                                          refine x_aload_n (pc := 102) C (d_D_init 50 rfl) rfl 1 rfl ?_
                                                                                          refine x_getR (pc := 103) (t := 7) C fl_D_17 rfl rfl (d_D_init 51 rfl) ?_
                                                                                          refine x_iload_n (pc := 106) C (d_D_init 52 rfl) rfl 0 rfl ?_
                                                                                          refine x_newn (n := st102.2.2.2 2) (pc := 107) (q := 2) (by rfl) C rfl rfl w_25 w_75 w_4 df_2 (Nat.le_of_ble_eq_true rfl) (Nat.le_of_ble_eq_true rfl) (d_D_init 53 rfl) ?_
                                                                                          refine x_dup (pc := 110) C rfl (d_D_init 54 rfl) ?_
                                                                                          cases c107 : f_O_init (st102.2.2.2 2) (xsN (xsR st102 7 i103 (5 : Int32).toNatClampNeg (some (st95.2.2.2 2))) 2) with
                                                                                          | none => rw [c107] at h; cases h
                                                                                          | some w316 =>
                                                                                            obtain ⟨v108, st109⟩ := w316
                                                                                            rw [c107] at h
                                                                                            dsimp only at h
                                                                                            refine x_callI (mc := 0) (ms := 0) (pc := 111) (bL := []) (K := [xR 2 (some (st102.2.2.2 2)), xI (6), xR 7 ((xsR st102 7 i103 (5 : Int32).toNatClampNeg (some (st95.2.2.2 2))).2.2.1 0 x0 1)]) C cs_D_48 (m_O_init l c107 : x_M l _ _ _ _ (.inl none) _ 0 0) (by decide) rfl (Nat.le_of_ble_eq_true rfl) (d_D_init 55 rfl) ?_
                                                                                            cases c111 : (xsR st102 7 i103 (5 : Int32).toNatClampNeg (some (st95.2.2.2 2))).2.2.1 0 x0 1 with
                                                                                            | none => rw [c111] at h; cases h
                                                                                            | some i110 =>
                                                                                              rw [c111] at h
                                                                                              dsimp only at h
                                                                                              by_cases b112 : x_in 6 20
                                                                                              · rw [if_pos b112] at h
                                                                                                refine x_aast (pc := 114) C ar_7 rfl rfl rfl rfl b112 (d_D_init 56 rfl) ?_
                                                                                                refine x_iinc (pc := 115) (v := 7) (L2 := [(1, xI (7)), (0, xR 0 (some (x0)))]) C (d_D_init 57 rfl) 0 rfl (by decide) (by decide) rfl ?_
                                                                                                refine x_goto (pc := 118) (tgt := 96) C (d_D_init 58 rfl) (by decide) ?_
                                                                                                refine x_iload_n (pc := 96) C (d_D_init 47 rfl) rfl 0 rfl ?_
                                                                                                refine x_bipush (pc := 97) (v := 20) C (by decide) (d_D_init 48 rfl) ?_
                                                                                                refine x_icmp_ge (pc := 99) (tgt := 121) C (d_D_init 49 rfl) (by decide) (fun c113 => absurd c113 (by decide)) (fun c113 => ?_)
                                                                                                refine x_aload_n (pc := 102) C (d_D_init 50 rfl) rfl 1 rfl ?_
                                                                                                refine x_getR (pc := 103) (t := 7) C fl_D_17 rfl rfl (d_D_init 51 rfl) ?_
                                                                                                refine x_iload_n (pc := 106) C (d_D_init 52 rfl) rfl 0 rfl ?_
                                                                                                refine x_newn (n := st109.2.2.2 2) (pc := 107) (q := 2) (by rfl) C rfl rfl w_25 w_75 w_4 df_2 (Nat.le_of_ble_eq_true rfl) (Nat.le_of_ble_eq_true rfl) (d_D_init 53 rfl) ?_
                                                                                                refine x_dup (pc := 110) C rfl (d_D_init 54 rfl) ?_
                                                                                                cases c114 : f_O_init (st109.2.2.2 2) (xsN (xsR st109 7 i110 (6 : Int32).toNatClampNeg (some (st102.2.2.2 2))) 2) with
                                                                                                | none => rw [c114] at h; cases h
                                                                                                | some w315 =>
                                                                                                  obtain ⟨v115, st116⟩ := w315
                                                                                                  rw [c114] at h
                                                                                                  dsimp only at h
                                                                                                  refine x_callI (mc := 0) (ms := 0) (pc := 111) (bL := []) (K := [xR 2 (some (st109.2.2.2 2)), xI (7), xR 7 ((xsR st109 7 i110 (6 : Int32).toNatClampNeg (some (st102.2.2.2 2))).2.2.1 0 x0 1)]) C cs_D_48 (m_O_init l c114 : x_M l _ _ _ _ (.inl none) _ 0 0) (by decide) rfl (Nat.le_of_ble_eq_true rfl) (d_D_init 55 rfl) ?_
                                                                                                  cases c118 : (xsR st109 7 i110 (6 : Int32).toNatClampNeg (some (st102.2.2.2 2))).2.2.1 0 x0 1 with
                                                                                                  | none => rw [c118] at h; cases h
                                                                                                  | some i117 =>
                                                                                                    rw [c118] at h
                                                                                                    dsimp only at h
                                                                                                    by_cases b119 : x_in 7 20
                                                                                                    · rw [if_pos b119] at h
                                                                                                      refine x_aast (pc := 114) C ar_7 rfl rfl rfl rfl b119 (d_D_init 56 rfl) ?_
                                                                                                      refine x_iinc (pc := 115) (v := 8) (L2 := [(1, xI (8)), (0, xR 0 (some (x0)))]) C (d_D_init 57 rfl) 0 rfl (by decide) (by decide) rfl ?_
                                                                                                      refine x_goto (pc := 118) (tgt := 96) C (d_D_init 58 rfl) (by decide) ?_
                                                                                                      refine x_iload_n (pc := 96) C (d_D_init 47 rfl) rfl 0 rfl ?_
                                                                                                      refine x_bipush (pc := 97) (v := 20) C (by decide) (d_D_init 48 rfl) ?_
                                                                                                      refine x_icmp_ge (pc := 99) (tgt := 121) C (d_D_init 49 rfl) (by decide) (fun c120 => absurd c120 (by decide)) (fun c120 => ?_)
                                                                                                      refine x_aload_n (pc := 102) C (d_D_init 50 rfl) rfl 1 rfl ?_
                                                                                                      refine x_getR (pc := 103) (t := 7) C fl_D_17 rfl rfl (d_D_init 51 rfl) ?_
                                                                                                      refine x_iload_n (pc := 106) C (d_D_init 52 rfl) rfl 0 rfl ?_
                                                                                                      refine x_newn (n := st116.2.2.2 2) (pc := 107) (q := 2) (by rfl) C rfl rfl w_25 w_75 w_4 df_2 (Nat.le_of_ble_eq_true rfl) (Nat.le_of_ble_eq_true rfl) (d_D_init 53 rfl) ?_
                                                                                                      refine x_dup (pc := 110) C rfl (d_D_init 54 rfl) ?_
                                                                                                      cases c121 : f_O_init (st116.2.2.2 2) (xsN (xsR st116 7 i117 (7 : Int32).toNatClampNeg (some (st109.2.2.2 2))) 2) with
                                                                                                      | none => rw [c121] at h; cases h
                                                                                                      | some w314 =>
                                                                                                        obtain ⟨v122, st123⟩ := w314
                                                                                                        rw [c121] at h
                                                                                                        dsimp only at h
                                                                                                        refine x_callI (mc := 0) (ms := 0) (pc := 111) (bL := []) (K := [xR 2 (some (st116.2.2.2 2)), xI (8), xR 7 ((xsR st116 7 i117 (7 : Int32).toNatClampNeg (some (st109.2.2.2 2))).2.2.1 0 x0 1)]) C cs_D_48 (m_O_init l c121 : x_M l _ _ _ _ (.inl none) _ 0 0) (by decide) rfl (Nat.le_of_ble_eq_true rfl) (d_D_init 55 rfl) ?_
                                                                                                        cases c125 : (xsR st116 7 i117 (7 : Int32).toNatClampNeg (some (st109.2.2.2 2))).2.2.1 0 x0 1 with
                                                                                                        | none => rw [c125] at h; cases h
                                                                                                        | some i124 =>
                                                                                                          rw [c125] at h
                                                                                                          dsimp only at h
                                                                                                          by_cases b126 : x_in 8 20
                                                                                                          · rw [if_pos b126] at h
                                                                                                            refine x_aast (pc := 114) C ar_7 rfl rfl rfl rfl b126 (d_D_init 56 rfl) ?_
                                                                                                            refine x_iinc (pc := 115) (v := 9) (L2 := [(1, xI (9)), (0, xR 0 (some (x0)))]) C (d_D_init 57 rfl) 0 rfl (by decide) (by decide) rfl ?_
                                                                                                            refine x_goto (pc := 118) (tgt := 96) C (d_D_init 58 rfl) (by decide) ?_
                                                                                                            refine x_iload_n (pc := 96) C (d_D_init 47 rfl) rfl 0 rfl ?_
                                                                                                            refine x_bipush (pc := 97) (v := 20) C (by decide) (d_D_init 48 rfl) ?_
                                                                                                            refine x_icmp_ge (pc := 99) (tgt := 121) C (d_D_init 49 rfl) (by decide) (fun c127 => absurd c127 (by decide)) (fun c127 => ?_)
                                                                                                            refine x_aload_n (pc := 102) C (d_D_init 50 rfl) rfl 1 rfl ?_
                                                                                                            refine x_getR (pc := 103) (t := 7) C fl_D_17 rfl rfl (d_D_init 51 rfl) ?_
                                                                                                            refine x_iload_n (pc := 106) C (d_D_init 52 rfl) rfl 0 rfl ?_
                                                                                                            refine x_newn (n := st123.2.2.2 2) (pc := 107) (q := 2) (by rfl) C rfl rfl w_25 w_75 w_4 df_2 (Nat.le_of_ble_eq_true rfl) (Nat.le_of_ble_eq_true rfl) (d_D_init 53 rfl) ?_
                                                                                                            refine x_dup (pc := 110) C rfl (d_D_init 54 rfl) ?_
                                                                                                            cases c128 : f_O_init (st123.2.2.2 2) (xsN (xsR st123 7 i124 (8 : Int32).toNatClampNeg (some (st116.2.2.2 2))) 2) with
                                                                                                            | none => rw [c128] at h; cases h
                                                                                                            | some w313 =>
                                                                                                              obtain ⟨v129, st130⟩ := w313
                                                                                                              rw [c128] at h
                                                                                                              dsimp only at h
                                                                                                              refine x_callI (mc := 0) (ms := 0) (pc := 111) (bL := []) (K := [xR 2 (some (st123.2.2.2 2)), xI (9), xR 7 ((xsR st123 7 i124 (8 : Int32).toNatClampNeg (some (st116.2.2.2 2))).2.2.1 0 x0 1)]) C cs_D_48 (m_O_init l c128 : x_M l _ _ _ _ (.inl none) _ 0 0) (by decide) rfl (Nat.le_of_ble_eq_true rfl) (d_D_init 55 rfl) ?_
                                                                                                              cases c132 : (xsR st123 7 i124 (8 : Int32).toNatClampNeg (some (st116.2.2.2 2))).2.2.1 0 x0 1 with
                                                                                                              | none => rw [c132] at h; cases h
                                                                                                              | some i131 =>
                                                                                                                rw [c132] at h
                                                                                                                dsimp only at h
                                                                                                                by_cases b133 : x_in 9 20
                                                                                                                · rw [if_pos b133] at h
                                                                                                                  refine x_aast (pc := 114) C ar_7 rfl rfl rfl rfl b133 (d_D_init 56 rfl) ?_
                                                                                                                  refine x_iinc (pc := 115) (v := 10) (L2 := [(1, xI (10)), (0, xR 0 (some (x0)))]) C (d_D_init 57 rfl) 0 rfl (by decide) (by decide) rfl ?_
                                                                                                                  refine x_goto (pc := 118) (tgt := 96) C (d_D_init 58 rfl) (by decide) ?_
                                                                                                                  refine x_iload_n (pc := 96) C (d_D_init 47 rfl) rfl 0 rfl ?_
                                                                                                                  refine x_bipush (pc := 97) (v := 20) C (by decide) (d_D_init 48 rfl) ?_
                                                                                                                  refine x_icmp_ge (pc := 99) (tgt := 121) C (d_D_init 49 rfl) (by decide) (fun c134 => absurd c134 (by decide)) (fun c134 => ?_)
                                                                                                                  refine x_aload_n (pc := 102) C (d_D_init 50 rfl) rfl 1 rfl ?_
                                                                                                                  refine x_getR (pc := 103) (t := 7) C fl_D_17 rfl rfl (d_D_init 51 rfl) ?_
                                                                                                                  refine x_iload_n (pc := 106) C (d_D_init 52 rfl) rfl 0 rfl ?_
                                                                                                                  refine x_newn (n := st130.2.2.2 2) (pc := 107) (q := 2) (by rfl) C rfl rfl w_25 w_75 w_4 df_2 (Nat.le_of_ble_eq_true rfl) (Nat.le_of_ble_eq_true rfl) (d_D_init 53 rfl) ?_
                                                                                                                  refine x_dup (pc := 110) C rfl (d_D_init 54 rfl) ?_
                                                                                                                  cases c135 : f_O_init (st130.2.2.2 2) (xsN (xsR st130 7 i131 (9 : Int32).toNatClampNeg (some (st123.2.2.2 2))) 2) with
                                                                                                                  | none => rw [c135] at h; cases h
                                                                                                                  | some w312 =>
                                                                                                                    obtain ⟨v136, st137⟩ := w312
                                                                                                                    rw [c135] at h
                                                                                                                    dsimp only at h
                                                                                                                    refine x_callI (mc := 0) (ms := 0) (pc := 111) (bL := []) (K := [xR 2 (some (st130.2.2.2 2)), xI (10), xR 7 ((xsR st130 7 i131 (9 : Int32).toNatClampNeg (some (st123.2.2.2 2))).2.2.1 0 x0 1)]) C cs_D_48 (m_O_init l c135 : x_M l _ _ _ _ (.inl none) _ 0 0) (by decide) rfl (Nat.le_of_ble_eq_true rfl) (d_D_init 55 rfl) ?_
                                                                                                                    cases c139 : (xsR st130 7 i131 (9 : Int32).toNatClampNeg (some (st123.2.2.2 2))).2.2.1 0 x0 1 with
                                                                                                                    | none => rw [c139] at h; cases h
                                                                                                                    | some i138 =>
                                                                                                                      rw [c139] at h
                                                                                                                      dsimp only at h
                                                                                                                      by_cases b140 : x_in 10 20
                                                                                                                      · rw [if_pos b140] at h
                                                                                                                        refine x_aast (pc := 114) C ar_7 rfl rfl rfl rfl b140 (d_D_init 56 rfl) ?_
                                                                                                                        refine x_iinc (pc := 115) (v := 11) (L2 := [(1, xI (11)), (0, xR 0 (some (x0)))]) C (d_D_init 57 rfl) 0 rfl (by decide) (by decide) rfl ?_
                                                                                                                        refine x_goto (pc := 118) (tgt := 96) C (d_D_init 58 rfl) (by decide) ?_
                                                                                                                        refine x_iload_n (pc := 96) C (d_D_init 47 rfl) rfl 0 rfl ?_
                                                                                                                        refine x_bipush (pc := 97) (v := 20) C (by decide) (d_D_init 48 rfl) ?_
                                                                                                                        refine x_icmp_ge (pc := 99) (tgt := 121) C (d_D_init 49 rfl) (by decide) (fun c141 => absurd c141 (by decide)) (fun c141 => ?_)
                                                                                                                        refine x_aload_n (pc := 102) C (d_D_init 50 rfl) rfl 1 rfl ?_
                                                                                                                        refine x_getR (pc := 103) (t := 7) C fl_D_17 rfl rfl (d_D_init 51 rfl) ?_
                                                                                                                        refine x_iload_n (pc := 106) C (d_D_init 52 rfl) rfl 0 rfl ?_
                                                                                                                        refine x_newn (n := st137.2.2.2 2) (pc := 107) (q := 2) (by rfl) C rfl rfl w_25 w_75 w_4 df_2 (Nat.le_of_ble_eq_true rfl) (Nat.le_of_ble_eq_true rfl) (d_D_init 53 rfl) ?_
                                                                                                                        refine x_dup (pc := 110) C rfl (d_D_init 54 rfl) ?_
                                                                                                                        cases c142 : f_O_init (st137.2.2.2 2) (xsN (xsR st137 7 i138 (10 : Int32).toNatClampNeg (some (st130.2.2.2 2))) 2) with
                                                                                                                        | none => rw [c142] at h; cases h
                                                                                                                        | some w311 =>
                                                                                                                          obtain ⟨v143, st144⟩ := w311
                                                                                                                          rw [c142] at h
                                                                                                                          dsimp only at h
                                                                                                                          refine x_callI (mc := 0) (ms := 0) (pc := 111) (bL := []) (K := [xR 2 (some (st137.2.2.2 2)), xI (11), xR 7 ((xsR st137 7 i138 (10 : Int32).toNatClampNeg (some (st130.2.2.2 2))).2.2.1 0 x0 1)]) C cs_D_48 (m_O_init l c142 : x_M l _ _ _ _ (.inl none) _ 0 0) (by decide) rfl (Nat.le_of_ble_eq_true rfl) (d_D_init 55 rfl) ?_
                                                                                                                          cases c146 : (xsR st137 7 i138 (10 : Int32).toNatClampNeg (some (st130.2.2.2 2))).2.2.1 0 x0 1 with
                                                                                                                          | none => rw [c146] at h; cases h
                                                                                                                          | some i145 =>
                                                                                                                            rw [c146] at h
                                                                                                                            dsimp only at h
                                                                                                                            by_cases b147 : x_in 11 20
                                                                                                                            · rw [if_pos b147] at h
                                                                                                                              refine x_aast (pc := 114) C ar_7 rfl rfl rfl rfl b147 (d_D_init 56 rfl) ?_
                                                                                                                              refine x_iinc (pc := 115) (v := 12) (L2 := [(1, xI (12)), (0, xR 0 (some (x0)))]) C (d_D_init 57 rfl) 0 rfl (by decide) (by decide) rfl ?_
                                                                                                                              refine x_goto (pc := 118) (tgt := 96) C (d_D_init 58 rfl) (by decide) ?_
                                                                                                                              refine x_iload_n (pc := 96) C (d_D_init 47 rfl) rfl 0 rfl ?_
                                                                                                                              refine x_bipush (pc := 97) (v := 20) C (by decide) (d_D_init 48 rfl) ?_
                                                                                                                              refine x_icmp_ge (pc := 99) (tgt := 121) C (d_D_init 49 rfl) (by decide) (fun c148 => absurd c148 (by decide)) (fun c148 => ?_)
                                                                                                                              refine x_aload_n (pc := 102) C (d_D_init 50 rfl) rfl 1 rfl ?_
                                                                                                                              refine x_getR (pc := 103) (t := 7) C fl_D_17 rfl rfl (d_D_init 51 rfl) ?_
                                                                                                                              refine x_iload_n (pc := 106) C (d_D_init 52 rfl) rfl 0 rfl ?_
                                                                                                                              refine x_newn (n := st144.2.2.2 2) (pc := 107) (q := 2) (by rfl) C rfl rfl w_25 w_75 w_4 df_2 (Nat.le_of_ble_eq_true rfl) (Nat.le_of_ble_eq_true rfl) (d_D_init 53 rfl) ?_
                                                                                                                              refine x_dup (pc := 110) C rfl (d_D_init 54 rfl) ?_
                                                                                                                              cases c149 : f_O_init (st144.2.2.2 2) (xsN (xsR st144 7 i145 (11 : Int32).toNatClampNeg (some (st137.2.2.2 2))) 2) with
                                                                                                                              | none => rw [c149] at h; cases h
                                                                                                                              | some w310 =>
                                                                                                                                obtain ⟨v150, st151⟩ := w310
                                                                                                                                rw [c149] at h
                                                                                                                                dsimp only at h
                                                                                                                                refine x_callI (mc := 0) (ms := 0) (pc := 111) (bL := []) (K := [xR 2 (some (st144.2.2.2 2)), xI (12), xR 7 ((xsR st144 7 i145 (11 : Int32).toNatClampNeg (some (st137.2.2.2 2))).2.2.1 0 x0 1)]) C cs_D_48 (m_O_init l c149 : x_M l _ _ _ _ (.inl none) _ 0 0) (by decide) rfl (Nat.le_of_ble_eq_true rfl) (d_D_init 55 rfl) ?_
                                                                                                                                cases c153 : (xsR st144 7 i145 (11 : Int32).toNatClampNeg (some (st137.2.2.2 2))).2.2.1 0 x0 1 with
                                                                                                                                | none => rw [c153] at h; cases h
                                                                                                                                | some i152 =>
                                                                                                                                  rw [c153] at h
                                                                                                                                  dsimp only at h
                                                                                                                                  by_cases b154 : x_in 12 20
                                                                                                                                  · rw [if_pos b154] at h
                                                                                                                                    refine x_aast (pc := 114) C ar_7 rfl rfl rfl rfl b154 (d_D_init 56 rfl) ?_
                                                                                                                                    refine x_iinc (pc := 115) (v := 13) (L2 := [(1, xI (13)), (0, xR 0 (some (x0)))]) C (d_D_init 57 rfl) 0 rfl (by decide) (by decide) rfl ?_
                                                                                                                                    refine x_goto (pc := 118) (tgt := 96) C (d_D_init 58 rfl) (by decide) ?_
                                                                                                                                    refine x_iload_n (pc := 96) C (d_D_init 47 rfl) rfl 0 rfl ?_
                                                                                                                                    refine x_bipush (pc := 97) (v := 20) C (by decide) (d_D_init 48 rfl) ?_
                                                                                                                                    refine x_icmp_ge (pc := 99) (tgt := 121) C (d_D_init 49 rfl) (by decide) (fun c155 => absurd c155 (by decide)) (fun c155 => ?_)
                                                                                                                                    refine x_aload_n (pc := 102) C (d_D_init 50 rfl) rfl 1 rfl ?_
                                                                                                                                    refine x_getR (pc := 103) (t := 7) C fl_D_17 rfl rfl (d_D_init 51 rfl) ?_
                                                                                                                                    refine x_iload_n (pc := 106) C (d_D_init 52 rfl) rfl 0 rfl ?_
                                                                                                                                    refine x_newn (n := st151.2.2.2 2) (pc := 107) (q := 2) (by rfl) C rfl rfl w_25 w_75 w_4 df_2 (Nat.le_of_ble_eq_true rfl) (Nat.le_of_ble_eq_true rfl) (d_D_init 53 rfl) ?_
                                                                                                                                    refine x_dup (pc := 110) C rfl (d_D_init 54 rfl) ?_
                                                                                                                                    cases c156 : f_O_init (st151.2.2.2 2) (xsN (xsR st151 7 i152 (12 : Int32).toNatClampNeg (some (st144.2.2.2 2))) 2) with
                                                                                                                                    | none => rw [c156] at h; cases h
                                                                                                                                    | some w309 =>
                                                                                                                                      obtain ⟨v157, st158⟩ := w309
                                                                                                                                      rw [c156] at h
                                                                                                                                      dsimp only at h
                                                                                                                                      refine x_callI (mc := 0) (ms := 0) (pc := 111) (bL := []) (K := [xR 2 (some (st151.2.2.2 2)), xI (13), xR 7 ((xsR st151 7 i152 (12 : Int32).toNatClampNeg (some (st144.2.2.2 2))).2.2.1 0 x0 1)]) C cs_D_48 (m_O_init l c156 : x_M l _ _ _ _ (.inl none) _ 0 0) (by decide) rfl (Nat.le_of_ble_eq_true rfl) (d_D_init 55 rfl) ?_
                                                                                                                                      cases c160 : (xsR st151 7 i152 (12 : Int32).toNatClampNeg (some (st144.2.2.2 2))).2.2.1 0 x0 1 with
                                                                                                                                      | none => rw [c160] at h; cases h
                                                                                                                                      | some i159 =>
                                                                                                                                        rw [c160] at h
                                                                                                                                        dsimp only at h
                                                                                                                                        by_cases b161 : x_in 13 20
                                                                                                                                        · rw [if_pos b161] at h
                                                                                                                                          refine x_aast (pc := 114) C ar_7 rfl rfl rfl rfl b161 (d_D_init 56 rfl) ?_
                                                                                                                                          refine x_iinc (pc := 115) (v := 14) (L2 := [(1, xI (14)), (0, xR 0 (some (x0)))]) C (d_D_init 57 rfl) 0 rfl (by decide) (by decide) rfl ?_
                                                                                                                                          refine x_goto (pc := 118) (tgt := 96) C (d_D_init 58 rfl) (by decide) ?_
                                                                                                                                          refine x_iload_n (pc := 96) C (d_D_init 47 rfl) rfl 0 rfl ?_
                                                                                                                                          refine x_bipush (pc := 97) (v := 20) C (by decide) (d_D_init 48 rfl) ?_
                                                                                                                                          refine x_icmp_ge (pc := 99) (tgt := 121) C (d_D_init 49 rfl) (by decide) (fun c162 => absurd c162 (by decide)) (fun c162 => ?_)
                                                                                                                                          refine x_aload_n (pc := 102) C (d_D_init 50 rfl) rfl 1 rfl ?_
                                                                                                                                          refine x_getR (pc := 103) (t := 7) C fl_D_17 rfl rfl (d_D_init 51 rfl) ?_
                                                                                                                                          refine x_iload_n (pc := 106) C (d_D_init 52 rfl) rfl 0 rfl ?_
                                                                                                                                          refine x_newn (n := st158.2.2.2 2) (pc := 107) (q := 2) (by rfl) C rfl rfl w_25 w_75 w_4 df_2 (Nat.le_of_ble_eq_true rfl) (Nat.le_of_ble_eq_true rfl) (d_D_init 53 rfl) ?_
                                                                                                                                          refine x_dup (pc := 110) C rfl (d_D_init 54 rfl) ?_
                                                                                                                                          cases c163 : f_O_init (st158.2.2.2 2) (xsN (xsR st158 7 i159 (13 : Int32).toNatClampNeg (some (st151.2.2.2 2))) 2) with
                                                                                                                                          | none => rw [c163] at h; cases h
                                                                                                                                          | some w308 =>
                                                                                                                                            obtain ⟨v164, st165⟩ := w308
                                                                                                                                            rw [c163] at h
                                                                                                                                            dsimp only at h
                                                                                                                                            refine x_callI (mc := 0) (ms := 0) (pc := 111) (bL := []) (K := [xR 2 (some (st158.2.2.2 2)), xI (14), xR 7 ((xsR st158 7 i159 (13 : Int32).toNatClampNeg (some (st151.2.2.2 2))).2.2.1 0 x0 1)]) C cs_D_48 (m_O_init l c163 : x_M l _ _ _ _ (.inl none) _ 0 0) (by decide) rfl (Nat.le_of_ble_eq_true rfl) (d_D_init 55 rfl) ?_
                                                                                                                                            cases c167 : (xsR st158 7 i159 (13 : Int32).toNatClampNeg (some (st151.2.2.2 2))).2.2.1 0 x0 1 with
                                                                                                                                            | none => rw [c167] at h; cases h
                                                                                                                                            | some i166 =>
                                                                                                                                              rw [c167] at h
                                                                                                                                              dsimp only at h
                                                                                                                                              by_cases b168 : x_in 14 20
                                                                                                                                              · rw [if_pos b168] at h
                                                                                                                                                refine x_aast (pc := 114) C ar_7 rfl rfl rfl rfl b168 (d_D_init 56 rfl) ?_
                                                                                                                                                refine x_iinc (pc := 115) (v := 15) (L2 := [(1, xI (15)), (0, xR 0 (some (x0)))]) C (d_D_init 57 rfl) 0 rfl (by decide) (by decide) rfl ?_
                                                                                                                                                refine x_goto (pc := 118) (tgt := 96) C (d_D_init 58 rfl) (by decide) ?_
                                                                                                                                                refine x_iload_n (pc := 96) C (d_D_init 47 rfl) rfl 0 rfl ?_
                                                                                                                                                refine x_bipush (pc := 97) (v := 20) C (by decide) (d_D_init 48 rfl) ?_
                                                                                                                                                refine x_icmp_ge (pc := 99) (tgt := 121) C (d_D_init 49 rfl) (by decide) (fun c169 => absurd c169 (by decide)) (fun c169 => ?_)
                                                                                                                                                refine x_aload_n (pc := 102) C (d_D_init 50 rfl) rfl 1 rfl ?_
                                                                                                                                                refine x_getR (pc := 103) (t := 7) C fl_D_17 rfl rfl (d_D_init 51 rfl) ?_
                                                                                                                                                refine x_iload_n (pc := 106) C (d_D_init 52 rfl) rfl 0 rfl ?_
                                                                                                                                                refine x_newn (n := st165.2.2.2 2) (pc := 107) (q := 2) (by rfl) C rfl rfl w_25 w_75 w_4 df_2 (Nat.le_of_ble_eq_true rfl) (Nat.le_of_ble_eq_true rfl) (d_D_init 53 rfl) ?_
                                                                                                                                                refine x_dup (pc := 110) C rfl (d_D_init 54 rfl) ?_
                                                                                                                                                cases c170 : f_O_init (st165.2.2.2 2) (xsN (xsR st165 7 i166 (14 : Int32).toNatClampNeg (some (st158.2.2.2 2))) 2) with
                                                                                                                                                | none => rw [c170] at h; cases h
                                                                                                                                                | some w307 =>
                                                                                                                                                  obtain ⟨v171, st172⟩ := w307
                                                                                                                                                  rw [c170] at h
                                                                                                                                                  dsimp only at h
                                                                                                                                                  refine x_callI (mc := 0) (ms := 0) (pc := 111) (bL := []) (K := [xR 2 (some (st165.2.2.2 2)), xI (15), xR 7 ((xsR st165 7 i166 (14 : Int32).toNatClampNeg (some (st158.2.2.2 2))).2.2.1 0 x0 1)]) C cs_D_48 (m_O_init l c170 : x_M l _ _ _ _ (.inl none) _ 0 0) (by decide) rfl (Nat.le_of_ble_eq_true rfl) (d_D_init 55 rfl) ?_
                                                                                                                                                  cases c174 : (xsR st165 7 i166 (14 : Int32).toNatClampNeg (some (st158.2.2.2 2))).2.2.1 0 x0 1 with
                                                                                                                                                  | none => rw [c174] at h; cases h
                                                                                                                                                  | some i173 =>
                                                                                                                                                    rw [c174] at h
                                                                                                                                                    dsimp only at h
                                                                                                                                                    by_cases b175 : x_in 15 20
                                                                                                                                                    · rw [if_pos b175] at h
                                                                                                                                                      refine x_aast (pc := 114) C ar_7 rfl rfl rfl rfl b175 (d_D_init 56 rfl) ?_
                                                                                                                                                      refine x_iinc (pc := 115) (v := 16) (L2 := [(1, xI (16)), (0, xR 0 (some (x0)))]) C (d_D_init 57 rfl) 0 rfl (by decide) (by decide) rfl ?_
                                                                                                                                                      refine x_goto (pc := 118) (tgt := 96) C (d_D_init 58 rfl) (by decide) ?_
                                                                                                                                                      refine x_iload_n (pc := 96) C (d_D_init 47 rfl) rfl 0 rfl ?_
                                                                                                                                                      refine x_bipush (pc := 97) (v := 20) C (by decide) (d_D_init 48 rfl) ?_
                                                                                                                                                      refine x_icmp_ge (pc := 99) (tgt := 121) C (d_D_init 49 rfl) (by decide) (fun c176 => absurd c176 (by decide)) (fun c176 => ?_)
                                                                                                                                                      refine x_aload_n (pc := 102) C (d_D_init 50 rfl) rfl 1 rfl ?_
                                                                                                                                                      refine x_getR (pc := 103) (t := 7) C fl_D_17 rfl rfl (d_D_init 51 rfl) ?_
                                                                                                                                                      refine x_iload_n (pc := 106) C (d_D_init 52 rfl) rfl 0 rfl ?_
                                                                                                                                                      refine x_newn (n := st172.2.2.2 2) (pc := 107) (q := 2) (by rfl) C rfl rfl w_25 w_75 w_4 df_2 (Nat.le_of_ble_eq_true rfl) (Nat.le_of_ble_eq_true rfl) (d_D_init 53 rfl) ?_
                                                                                                                                                      refine x_dup (pc := 110) C rfl (d_D_init 54 rfl) ?_
                                                                                                                                                      cases c177 : f_O_init (st172.2.2.2 2) (xsN (xsR st172 7 i173 (15 : Int32).toNatClampNeg (some (st165.2.2.2 2))) 2) with
                                                                                                                                                      | none => rw [c177] at h; cases h
                                                                                                                                                      | some w306 =>
                                                                                                                                                        obtain ⟨v178, st179⟩ := w306
                                                                                                                                                        rw [c177] at h
                                                                                                                                                        dsimp only at h
                                                                                                                                                        refine x_callI (mc := 0) (ms := 0) (pc := 111) (bL := []) (K := [xR 2 (some (st172.2.2.2 2)), xI (16), xR 7 ((xsR st172 7 i173 (15 : Int32).toNatClampNeg (some (st165.2.2.2 2))).2.2.1 0 x0 1)]) C cs_D_48 (m_O_init l c177 : x_M l _ _ _ _ (.inl none) _ 0 0) (by decide) rfl (Nat.le_of_ble_eq_true rfl) (d_D_init 55 rfl) ?_
                                                                                                                                                        cases c181 : (xsR st172 7 i173 (15 : Int32).toNatClampNeg (some (st165.2.2.2 2))).2.2.1 0 x0 1 with
                                                                                                                                                        | none => rw [c181] at h; cases h
                                                                                                                                                        | some i180 =>
                                                                                                                                                          rw [c181] at h
                                                                                                                                                          dsimp only at h
                                                                                                                                                          by_cases b182 : x_in 16 20
                                                                                                                                                          · rw [if_pos b182] at h
                                                                                                                                                            refine x_aast (pc := 114) C ar_7 rfl rfl rfl rfl b182 (d_D_init 56 rfl) ?_
                                                                                                                                                            refine x_iinc (pc := 115) (v := 17) (L2 := [(1, xI (17)), (0, xR 0 (some (x0)))]) C (d_D_init 57 rfl) 0 rfl (by decide) (by decide) rfl ?_
                                                                                                                                                            refine x_goto (pc := 118) (tgt := 96) C (d_D_init 58 rfl) (by decide) ?_
                                                                                                                                                            refine x_iload_n (pc := 96) C (d_D_init 47 rfl) rfl 0 rfl ?_
                                                                                                                                                            refine x_bipush (pc := 97) (v := 20) C (by decide) (d_D_init 48 rfl) ?_
                                                                                                                                                            refine x_icmp_ge (pc := 99) (tgt := 121) C (d_D_init 49 rfl) (by decide) (fun c183 => absurd c183 (by decide)) (fun c183 => ?_)
                                                                                                                                                            refine x_aload_n (pc := 102) C (d_D_init 50 rfl) rfl 1 rfl ?_
                                                                                                                                                            refine x_getR (pc := 103) (t := 7) C fl_D_17 rfl rfl (d_D_init 51 rfl) ?_
                                                                                                                                                            refine x_iload_n (pc := 106) C (d_D_init 52 rfl) rfl 0 rfl ?_
                                                                                                                                                            refine x_newn (n := st179.2.2.2 2) (pc := 107) (q := 2) (by rfl) C rfl rfl w_25 w_75 w_4 df_2 (Nat.le_of_ble_eq_true rfl) (Nat.le_of_ble_eq_true rfl) (d_D_init 53 rfl) ?_
                                                                                                                                                            refine x_dup (pc := 110) C rfl (d_D_init 54 rfl) ?_
                                                                                                                                                            cases c184 : f_O_init (st179.2.2.2 2) (xsN (xsR st179 7 i180 (16 : Int32).toNatClampNeg (some (st172.2.2.2 2))) 2) with
                                                                                                                                                            | none => rw [c184] at h; cases h
                                                                                                                                                            | some w305 =>
                                                                                                                                                              obtain ⟨v185, st186⟩ := w305
                                                                                                                                                              rw [c184] at h
                                                                                                                                                              dsimp only at h
                                                                                                                                                              refine x_callI (mc := 0) (ms := 0) (pc := 111) (bL := []) (K := [xR 2 (some (st179.2.2.2 2)), xI (17), xR 7 ((xsR st179 7 i180 (16 : Int32).toNatClampNeg (some (st172.2.2.2 2))).2.2.1 0 x0 1)]) C cs_D_48 (m_O_init l c184 : x_M l _ _ _ _ (.inl none) _ 0 0) (by decide) rfl (Nat.le_of_ble_eq_true rfl) (d_D_init 55 rfl) ?_
                                                                                                                                                              cases c188 : (xsR st179 7 i180 (16 : Int32).toNatClampNeg (some (st172.2.2.2 2))).2.2.1 0 x0 1 with
                                                                                                                                                              | none => rw [c188] at h; cases h
                                                                                                                                                              | some i187 =>
                                                                                                                                                                rw [c188] at h
                                                                                                                                                                dsimp only at h
                                                                                                                                                                by_cases b189 : x_in 17 20
                                                                                                                                                                · rw [if_pos b189] at h
                                                                                                                                                                  refine x_aast (pc := 114) C ar_7 rfl rfl rfl rfl b189 (d_D_init 56 rfl) ?_
                                                                                                                                                                  refine x_iinc (pc := 115) (v := 18) (L2 := [(1, xI (18)), (0, xR 0 (some (x0)))]) C (d_D_init 57 rfl) 0 rfl (by decide) (by decide) rfl ?_
                                                                                                                                                                  refine x_goto (pc := 118) (tgt := 96) C (d_D_init 58 rfl) (by decide) ?_
                                                                                                                                                                  refine x_iload_n (pc := 96) C (d_D_init 47 rfl) rfl 0 rfl ?_
                                                                                                                                                                  refine x_bipush (pc := 97) (v := 20) C (by decide) (d_D_init 48 rfl) ?_
                                                                                                                                                                  refine x_icmp_ge (pc := 99) (tgt := 121) C (d_D_init 49 rfl) (by decide) (fun c190 => absurd c190 (by decide)) (fun c190 => ?_)
                                                                                                                                                                  refine x_aload_n (pc := 102) C (d_D_init 50 rfl) rfl 1 rfl ?_
                                                                                                                                                                  refine x_getR (pc := 103) (t := 7) C fl_D_17 rfl rfl (d_D_init 51 rfl) ?_
                                                                                                                                                                  refine x_iload_n (pc := 106) C (d_D_init 52 rfl) rfl 0 rfl ?_
                                                                                                                                                                  refine x_newn (n := st186.2.2.2 2) (pc := 107) (q := 2) (by rfl) C rfl rfl w_25 w_75 w_4 df_2 (Nat.le_of_ble_eq_true rfl) (Nat.le_of_ble_eq_true rfl) (d_D_init 53 rfl) ?_
                                                                                                                                                                  refine x_dup (pc := 110) C rfl (d_D_init 54 rfl) ?_
                                                                                                                                                                  cases c191 : f_O_init (st186.2.2.2 2) (xsN (xsR st186 7 i187 (17 : Int32).toNatClampNeg (some (st179.2.2.2 2))) 2) with
                                                                                                                                                                  | none => rw [c191] at h; cases h
                                                                                                                                                                  | some w304 =>
                                                                                                                                                                    obtain ⟨v192, st193⟩ := w304
                                                                                                                                                                    rw [c191] at h
                                                                                                                                                                    dsimp only at h
                                                                                                                                                                    refine x_callI (mc := 0) (ms := 0) (pc := 111) (bL := []) (K := [xR 2 (some (st186.2.2.2 2)), xI (18), xR 7 ((xsR st186 7 i187 (17 : Int32).toNatClampNeg (some (st179.2.2.2 2))).2.2.1 0 x0 1)]) C cs_D_48 (m_O_init l c191 : x_M l _ _ _ _ (.inl none) _ 0 0) (by decide) rfl (Nat.le_of_ble_eq_true rfl) (d_D_init 55 rfl) ?_
                                                                                                                                                                    cases c195 : (xsR st186 7 i187 (17 : Int32).toNatClampNeg (some (st179.2.2.2 2))).2.2.1 0 x0 1 with
                                                                                                                                                                    | none => rw [c195] at h; cases h
                                                                                                                                                                    | some i194 =>
                                                                                                                                                                      rw [c195] at h
                                                                                                                                                                      dsimp only at h
                                                                                                                                                                      by_cases b196 : x_in 18 20
                                                                                                                                                                      · rw [if_pos b196] at h
                                                                                                                                                                        refine x_aast (pc := 114) C ar_7 rfl rfl rfl rfl b196 (d_D_init 56 rfl) ?_
                                                                                                                                                                        refine x_iinc (pc := 115) (v := 19) (L2 := [(1, xI (19)), (0, xR 0 (some (x0)))]) C (d_D_init 57 rfl) 0 rfl (by decide) (by decide) rfl ?_
                                                                                                                                                                        refine x_goto (pc := 118) (tgt := 96) C (d_D_init 58 rfl) (by decide) ?_
                                                                                                                                                                        refine x_iload_n (pc := 96) C (d_D_init 47 rfl) rfl 0 rfl ?_
                                                                                                                                                                        refine x_bipush (pc := 97) (v := 20) C (by decide) (d_D_init 48 rfl) ?_
                                                                                                                                                                        refine x_icmp_ge (pc := 99) (tgt := 121) C (d_D_init 49 rfl) (by decide) (fun c197 => absurd c197 (by decide)) (fun c197 => ?_)
                                                                                                                                                                        refine x_aload_n (pc := 102) C (d_D_init 50 rfl) rfl 1 rfl ?_
                                                                                                                                                                        refine x_getR (pc := 103) (t := 7) C fl_D_17 rfl rfl (d_D_init 51 rfl) ?_
                                                                                                                                                                        refine x_iload_n (pc := 106) C (d_D_init 52 rfl) rfl 0 rfl ?_
                                                                                                                                                                        refine x_newn (n := st193.2.2.2 2) (pc := 107) (q := 2) (by rfl) C rfl rfl w_25 w_75 w_4 df_2 (Nat.le_of_ble_eq_true rfl) (Nat.le_of_ble_eq_true rfl) (d_D_init 53 rfl) ?_
                                                                                                                                                                        refine x_dup (pc := 110) C rfl (d_D_init 54 rfl) ?_
                                                                                                                                                                        cases c198 : f_O_init (st193.2.2.2 2) (xsN (xsR st193 7 i194 (18 : Int32).toNatClampNeg (some (st186.2.2.2 2))) 2) with
                                                                                                                                                                        | none => rw [c198] at h; cases h
                                                                                                                                                                        | some w303 =>
                                                                                                                                                                          obtain ⟨v199, st200⟩ := w303
                                                                                                                                                                          rw [c198] at h
                                                                                                                                                                          dsimp only at h
                                                                                                                                                                          refine x_callI (mc := 0) (ms := 0) (pc := 111) (bL := []) (K := [xR 2 (some (st193.2.2.2 2)), xI (19), xR 7 ((xsR st193 7 i194 (18 : Int32).toNatClampNeg (some (st186.2.2.2 2))).2.2.1 0 x0 1)]) C cs_D_48 (m_O_init l c198 : x_M l _ _ _ _ (.inl none) _ 0 0) (by decide) rfl (Nat.le_of_ble_eq_true rfl) (d_D_init 55 rfl) ?_
                                                                                                                                                                          cases c202 : (xsR st193 7 i194 (18 : Int32).toNatClampNeg (some (st186.2.2.2 2))).2.2.1 0 x0 1 with
                                                                                                                                                                          | none => rw [c202] at h; cases h
                                                                                                                                                                          | some i201 =>
                                                                                                                                                                            rw [c202] at h
                                                                                                                                                                            dsimp only at h
                                                                                                                                                                            by_cases b203 : x_in 19 20
                                                                                                                                                                            · rw [if_pos b203] at h
                                                                                                                                                                              refine x_aast (pc := 114) C ar_7 rfl rfl rfl rfl b203 (d_D_init 56 rfl) ?_
                                                                                                                                                                              refine x_iinc (pc := 115) (v := 20) (L2 := [(1, xI (20)), (0, xR 0 (some (x0)))]) C (d_D_init 57 rfl) 0 rfl (by decide) (by decide) rfl ?_
                                                                                                                                                                              refine x_goto (pc := 118) (tgt := 96) C (d_D_init 58 rfl) (by decide) ?_
                                                                                                                                                                              refine x_iload_n (pc := 96) C (d_D_init 47 rfl) rfl 0 rfl ?_
                                                                                                                                                                              refine x_bipush (pc := 97) (v := 20) C (by decide) (d_D_init 48 rfl) ?_
                                                                                                                                                                              refine x_icmp_ge (pc := 99) (tgt := 121) C (d_D_init 49 rfl) (by decide) (fun c204 => ?_) (fun c204 => absurd c204 (by decide))
                                                                                                                                                                              refine x_iconst (pc := 121) (v := 0) C (by decide) (d_D_init 59 rfl) ?_
                                                                                                                                                                              refine x_istore_n (pc := 122) (L2 := [(1, xI (0)), (0, xR 0 (some (x0)))]) C (d_D_init 60 rfl) rfl (by decide) rfl ?_
                                                                                                                                                                              refine x_iload_n (pc := 123) C (d_D_init 61 rfl) rfl 0 rfl ?_
                                                                                                                                                                              refine x_bipush (pc := 124) (v := 6) C (by decide) (d_D_init 62 rfl) ?_
                                                                                                                                                                              refine x_icmp_ge (pc := 126) (tgt := 148) C (d_D_init 63 rfl) (by decide) (fun c205 => absurd c205 (by decide)) (fun c205 => ?_)
                                                                                                                                                                              refine x_aload_n (pc := 129) C (d_D_init 64 rfl) rfl 1 rfl ?_
                                                                                                                                                                              refine x_getR (pc := 130) (t := 8) C fl_D_23 rfl rfl (d_D_init 65 rfl) ?_
                                                                                                                                                                              refine x_iload_n (pc := 133) C (d_D_init 66 rfl) rfl 0 rfl ?_
                                                                                                                                                                              refine x_newn (n := st200.2.2.2 3) (pc := 134) (q := 3) (by rfl) C rfl rfl w_27 w_102 w_5 df_3 (Nat.le_of_ble_eq_true rfl) (Nat.le_of_ble_eq_true rfl) (d_D_init 67 rfl) ?_
                                                                                                                                                                              refine x_dup (pc := 137) C rfl (d_D_init 68 rfl) ?_
                                                                                                                                                                              cases c206 : f_I_init (st200.2.2.2 3) (xsN (xsR st200 7 i201 (19 : Int32).toNatClampNeg (some (st193.2.2.2 2))) 3) with
                                                                                                                                                                              | none => rw [c206] at h; cases h
                                                                                                                                                                              | some w302 =>
                                                                                                                                                                                obtain ⟨v207, st208⟩ := w302
                                                                                                                                                                                rw [c206] at h
                                                                                                                                                                                dsimp only at h
                                                                                                                                                                                refine x_callI (mc := 2) (ms := 67) (pc := 138) (bL := []) (K := [xR 3 (some (st200.2.2.2 3)), xI (0), xR 8 ((xsR st200 7 i201 (19 : Int32).toNatClampNeg (some (st193.2.2.2 2))).2.2.1 0 x0 2)]) C cs_D_49 (m_I_init l c206 : x_M l _ _ _ _ (.inl none) _ 2 67) (by decide) rfl (Nat.le_of_ble_eq_true rfl) (d_D_init 69 rfl) ?_
                                                                                                                                                                                cases c210 : (xsR st200 7 i201 (19 : Int32).toNatClampNeg (some (st193.2.2.2 2))).2.2.1 0 x0 2 with
                                                                                                                                                                                | none => rw [c210] at h; cases h
                                                                                                                                                                                | some i209 =>
                                                                                                                                                                                  rw [c210] at h
                                                                                                                                                                                  dsimp only at h
                                                                                                                                                                                  by_cases b211 : x_in 0 6
                                                                                                                                                                                  · rw [if_pos b211] at h
                                                                                                                                                                                    refine x_aast (pc := 141) C ar_8 rfl rfl rfl rfl b211 (d_D_init 70 rfl) ?_
                                                                                                                                                                                    refine x_iinc (pc := 142) (v := 1) (L2 := [(1, xI (1)), (0, xR 0 (some (x0)))]) C (d_D_init 71 rfl) 0 rfl (by decide) (by decide) rfl ?_
                                                                                                                                                                                    refine x_goto (pc := 145) (tgt := 123) C (d_D_init 72 rfl) (by decide) ?_
                                                                                                                                                                                    refine x_iload_n (pc := 123) C (d_D_init 61 rfl) rfl 0 rfl ?_
                                                                                                                                                                                    refine x_bipush (pc := 124) (v := 6) C (by decide) (d_D_init 62 rfl) ?_
                                                                                                                                                                                    refine x_icmp_ge (pc := 126) (tgt := 148) C (d_D_init 63 rfl) (by decide) (fun c212 => absurd c212 (by decide)) (fun c212 => ?_)
                                                                                                                                                                                    refine x_aload_n (pc := 129) C (d_D_init 64 rfl) rfl 1 rfl ?_
                                                                                                                                                                                    refine x_getR (pc := 130) (t := 8) C fl_D_23 rfl rfl (d_D_init 65 rfl) ?_
                                                                                                                                                                                    refine x_iload_n (pc := 133) C (d_D_init 66 rfl) rfl 0 rfl ?_
                                                                                                                                                                                    refine x_newn (n := st208.2.2.2 3) (pc := 134) (q := 3) (by rfl) C rfl rfl w_27 w_102 w_5 df_3 (Nat.le_of_ble_eq_true rfl) (Nat.le_of_ble_eq_true rfl) (d_D_init 67 rfl) ?_
                                                                                                                                                                                    refine x_dup (pc := 137) C rfl (d_D_init 68 rfl) ?_
                                                                                                                                                                                    cases c213 : f_I_init (st208.2.2.2 3) (xsN (xsR st208 8 i209 (0 : Int32).toNatClampNeg (some (st200.2.2.2 3))) 3) with
                                                                                                                                                                                    | none => rw [c213] at h; cases h
                                                                                                                                                                                    | some w301 =>
                                                                                                                                                                                      obtain ⟨v214, st215⟩ := w301
                                                                                                                                                                                      rw [c213] at h
                                                                                                                                                                                      dsimp only at h
                                                                                                                                                                                      refine x_callI (mc := 2) (ms := 67) (pc := 138) (bL := []) (K := [xR 3 (some (st208.2.2.2 3)), xI (1), xR 8 ((xsR st208 8 i209 (0 : Int32).toNatClampNeg (some (st200.2.2.2 3))).2.2.1 0 x0 2)]) C cs_D_49 (m_I_init l c213 : x_M l _ _ _ _ (.inl none) _ 2 67) (by decide) rfl (Nat.le_of_ble_eq_true rfl) (d_D_init 69 rfl) ?_
                                                                                                                                                                                      cases c217 : (xsR st208 8 i209 (0 : Int32).toNatClampNeg (some (st200.2.2.2 3))).2.2.1 0 x0 2 with
                                                                                                                                                                                      | none => rw [c217] at h; cases h
                                                                                                                                                                                      | some i216 =>
                                                                                                                                                                                        rw [c217] at h
                                                                                                                                                                                        dsimp only at h
                                                                                                                                                                                        by_cases b218 : x_in 1 6
                                                                                                                                                                                        · rw [if_pos b218] at h
                                                                                                                                                                                          refine x_aast (pc := 141) C ar_8 rfl rfl rfl rfl b218 (d_D_init 70 rfl) ?_
                                                                                                                                                                                          refine x_iinc (pc := 142) (v := 2) (L2 := [(1, xI (2)), (0, xR 0 (some (x0)))]) C (d_D_init 71 rfl) 0 rfl (by decide) (by decide) rfl ?_
                                                                                                                                                                                          refine x_goto (pc := 145) (tgt := 123) C (d_D_init 72 rfl) (by decide) ?_
                                                                                                                                                                                          refine x_iload_n (pc := 123) C (d_D_init 61 rfl) rfl 0 rfl ?_
                                                                                                                                                                                          refine x_bipush (pc := 124) (v := 6) C (by decide) (d_D_init 62 rfl) ?_
                                                                                                                                                                                          refine x_icmp_ge (pc := 126) (tgt := 148) C (d_D_init 63 rfl) (by decide) (fun c219 => absurd c219 (by decide)) (fun c219 => ?_)
                                                                                                                                                                                          refine x_aload_n (pc := 129) C (d_D_init 64 rfl) rfl 1 rfl ?_
                                                                                                                                                                                          refine x_getR (pc := 130) (t := 8) C fl_D_23 rfl rfl (d_D_init 65 rfl) ?_
                                                                                                                                                                                          refine x_iload_n (pc := 133) C (d_D_init 66 rfl) rfl 0 rfl ?_
                                                                                                                                                                                          refine x_newn (n := st215.2.2.2 3) (pc := 134) (q := 3) (by rfl) C rfl rfl w_27 w_102 w_5 df_3 (Nat.le_of_ble_eq_true rfl) (Nat.le_of_ble_eq_true rfl) (d_D_init 67 rfl) ?_
                                                                                                                                                                                          refine x_dup (pc := 137) C rfl (d_D_init 68 rfl) ?_
                                                                                                                                                                                          cases c220 : f_I_init (st215.2.2.2 3) (xsN (xsR st215 8 i216 (1 : Int32).toNatClampNeg (some (st208.2.2.2 3))) 3) with
                                                                                                                                                                                          | none => rw [c220] at h; cases h
                                                                                                                                                                                          | some w300 =>
                                                                                                                                                                                            obtain ⟨v221, st222⟩ := w300
                                                                                                                                                                                            rw [c220] at h
                                                                                                                                                                                            dsimp only at h
                                                                                                                                                                                            refine x_callI (mc := 2) (ms := 67) (pc := 138) (bL := []) (K := [xR 3 (some (st215.2.2.2 3)), xI (2), xR 8 ((xsR st215 8 i216 (1 : Int32).toNatClampNeg (some (st208.2.2.2 3))).2.2.1 0 x0 2)]) C cs_D_49 (m_I_init l c220 : x_M l _ _ _ _ (.inl none) _ 2 67) (by decide) rfl (Nat.le_of_ble_eq_true rfl) (d_D_init 69 rfl) ?_
                                                                                                                                                                                            cases c224 : (xsR st215 8 i216 (1 : Int32).toNatClampNeg (some (st208.2.2.2 3))).2.2.1 0 x0 2 with
                                                                                                                                                                                            | none => rw [c224] at h; cases h
                                                                                                                                                                                            | some i223 =>
                                                                                                                                                                                              rw [c224] at h
                                                                                                                                                                                              dsimp only at h
                                                                                                                                                                                              by_cases b225 : x_in 2 6
                                                                                                                                                                                              · rw [if_pos b225] at h
                                                                                                                                                                                                refine x_aast (pc := 141) C ar_8 rfl rfl rfl rfl b225 (d_D_init 70 rfl) ?_
                                                                                                                                                                                                refine x_iinc (pc := 142) (v := 3) (L2 := [(1, xI (3)), (0, xR 0 (some (x0)))]) C (d_D_init 71 rfl) 0 rfl (by decide) (by decide) rfl ?_
                                                                                                                                                                                                refine x_goto (pc := 145) (tgt := 123) C (d_D_init 72 rfl) (by decide) ?_
                                                                                                                                                                                                refine x_iload_n (pc := 123) C (d_D_init 61 rfl) rfl 0 rfl ?_
                                                                                                                                                                                                refine x_bipush (pc := 124) (v := 6) C (by decide) (d_D_init 62 rfl) ?_
                                                                                                                                                                                                refine x_icmp_ge (pc := 126) (tgt := 148) C (d_D_init 63 rfl) (by decide) (fun c226 => absurd c226 (by decide)) (fun c226 => ?_)
                                                                                                                                                                                                refine x_aload_n (pc := 129) C (d_D_init 64 rfl) rfl 1 rfl ?_
                                                                                                                                                                                                refine x_getR (pc := 130) (t := 8) C fl_D_23 rfl rfl (d_D_init 65 rfl) ?_
                                                                                                                                                                                                refine x_iload_n (pc := 133) C (d_D_init 66 rfl) rfl 0 rfl ?_
                                                                                                                                                                                                refine x_newn (n := st222.2.2.2 3) (pc := 134) (q := 3) (by rfl) C rfl rfl w_27 w_102 w_5 df_3 (Nat.le_of_ble_eq_true rfl) (Nat.le_of_ble_eq_true rfl) (d_D_init 67 rfl) ?_
                                                                                                                                                                                                refine x_dup (pc := 137) C rfl (d_D_init 68 rfl) ?_
                                                                                                                                                                                                cases c227 : f_I_init (st222.2.2.2 3) (xsN (xsR st222 8 i223 (2 : Int32).toNatClampNeg (some (st215.2.2.2 3))) 3) with
                                                                                                                                                                                                | none => rw [c227] at h; cases h
                                                                                                                                                                                                | some w299 =>
                                                                                                                                                                                                  obtain ⟨v228, st229⟩ := w299
                                                                                                                                                                                                  rw [c227] at h
                                                                                                                                                                                                  dsimp only at h
                                                                                                                                                                                                  refine x_callI (mc := 2) (ms := 67) (pc := 138) (bL := []) (K := [xR 3 (some (st222.2.2.2 3)), xI (3), xR 8 ((xsR st222 8 i223 (2 : Int32).toNatClampNeg (some (st215.2.2.2 3))).2.2.1 0 x0 2)]) C cs_D_49 (m_I_init l c227 : x_M l _ _ _ _ (.inl none) _ 2 67) (by decide) rfl (Nat.le_of_ble_eq_true rfl) (d_D_init 69 rfl) ?_
                                                                                                                                                                                                  cases c231 : (xsR st222 8 i223 (2 : Int32).toNatClampNeg (some (st215.2.2.2 3))).2.2.1 0 x0 2 with
                                                                                                                                                                                                  | none => rw [c231] at h; cases h
                                                                                                                                                                                                  | some i230 =>
                                                                                                                                                                                                    rw [c231] at h
                                                                                                                                                                                                    dsimp only at h
                                                                                                                                                                                                    by_cases b232 : x_in 3 6
                                                                                                                                                                                                    · rw [if_pos b232] at h
                                                                                                                                                                                                      refine x_aast (pc := 141) C ar_8 rfl rfl rfl rfl b232 (d_D_init 70 rfl) ?_
                                                                                                                                                                                                      refine x_iinc (pc := 142) (v := 4) (L2 := [(1, xI (4)), (0, xR 0 (some (x0)))]) C (d_D_init 71 rfl) 0 rfl (by decide) (by decide) rfl ?_
                                                                                                                                                                                                      refine x_goto (pc := 145) (tgt := 123) C (d_D_init 72 rfl) (by decide) ?_
                                                                                                                                                                                                      refine x_iload_n (pc := 123) C (d_D_init 61 rfl) rfl 0 rfl ?_
                                                                                                                                                                                                      refine x_bipush (pc := 124) (v := 6) C (by decide) (d_D_init 62 rfl) ?_
                                                                                                                                                                                                      refine x_icmp_ge (pc := 126) (tgt := 148) C (d_D_init 63 rfl) (by decide) (fun c233 => absurd c233 (by decide)) (fun c233 => ?_)
                                                                                                                                                                                                      refine x_aload_n (pc := 129) C (d_D_init 64 rfl) rfl 1 rfl ?_
                                                                                                                                                                                                      refine x_getR (pc := 130) (t := 8) C fl_D_23 rfl rfl (d_D_init 65 rfl) ?_
                                                                                                                                                                                                      refine x_iload_n (pc := 133) C (d_D_init 66 rfl) rfl 0 rfl ?_
                                                                                                                                                                                                      refine x_newn (n := st229.2.2.2 3) (pc := 134) (q := 3) (by rfl) C rfl rfl w_27 w_102 w_5 df_3 (Nat.le_of_ble_eq_true rfl) (Nat.le_of_ble_eq_true rfl) (d_D_init 67 rfl) ?_
                                                                                                                                                                                                      refine x_dup (pc := 137) C rfl (d_D_init 68 rfl) ?_
                                                                                                                                                                                                      cases c234 : f_I_init (st229.2.2.2 3) (xsN (xsR st229 8 i230 (3 : Int32).toNatClampNeg (some (st222.2.2.2 3))) 3) with
                                                                                                                                                                                                      | none => rw [c234] at h; cases h
                                                                                                                                                                                                      | some w298 =>
                                                                                                                                                                                                        obtain ⟨v235, st236⟩ := w298
                                                                                                                                                                                                        rw [c234] at h
                                                                                                                                                                                                        dsimp only at h
                                                                                                                                                                                                        refine x_callI (mc := 2) (ms := 67) (pc := 138) (bL := []) (K := [xR 3 (some (st229.2.2.2 3)), xI (4), xR 8 ((xsR st229 8 i230 (3 : Int32).toNatClampNeg (some (st222.2.2.2 3))).2.2.1 0 x0 2)]) C cs_D_49 (m_I_init l c234 : x_M l _ _ _ _ (.inl none) _ 2 67) (by decide) rfl (Nat.le_of_ble_eq_true rfl) (d_D_init 69 rfl) ?_
                                                                                                                                                                                                        cases c238 : (xsR st229 8 i230 (3 : Int32).toNatClampNeg (some (st222.2.2.2 3))).2.2.1 0 x0 2 with
                                                                                                                                                                                                        | none => rw [c238] at h; cases h
                                                                                                                                                                                                        | some i237 =>
                                                                                                                                                                                                          rw [c238] at h
                                                                                                                                                                                                          dsimp only at h
                                                                                                                                                                                                          by_cases b239 : x_in 4 6
                                                                                                                                                                                                          · rw [if_pos b239] at h
                                                                                                                                                                                                            refine x_aast (pc := 141) C ar_8 rfl rfl rfl rfl b239 (d_D_init 70 rfl) ?_
                                                                                                                                                                                                            refine x_iinc (pc := 142) (v := 5) (L2 := [(1, xI (5)), (0, xR 0 (some (x0)))]) C (d_D_init 71 rfl) 0 rfl (by decide) (by decide) rfl ?_
                                                                                                                                                                                                            refine x_goto (pc := 145) (tgt := 123) C (d_D_init 72 rfl) (by decide) ?_
                                                                                                                                                                                                            refine x_iload_n (pc := 123) C (d_D_init 61 rfl) rfl 0 rfl ?_
                                                                                                                                                                                                            refine x_bipush (pc := 124) (v := 6) C (by decide) (d_D_init 62 rfl) ?_
                                                                                                                                                                                                            refine x_icmp_ge (pc := 126) (tgt := 148) C (d_D_init 63 rfl) (by decide) (fun c240 => absurd c240 (by decide)) (fun c240 => ?_)
                                                                                                                                                                                                            refine x_aload_n (pc := 129) C (d_D_init 64 rfl) rfl 1 rfl ?_
                                                                                                                                                                                                            refine x_getR (pc := 130) (t := 8) C fl_D_23 rfl rfl (d_D_init 65 rfl) ?_
                                                                                                                                                                                                            refine x_iload_n (pc := 133) C (d_D_init 66 rfl) rfl 0 rfl ?_
                                                                                                                                                                                                            refine x_newn (n := st236.2.2.2 3) (pc := 134) (q := 3) (by rfl) C rfl rfl w_27 w_102 w_5 df_3 (Nat.le_of_ble_eq_true rfl) (Nat.le_of_ble_eq_true rfl) (d_D_init 67 rfl) ?_
                                                                                                                                                                                                            refine x_dup (pc := 137) C rfl (d_D_init 68 rfl) ?_
                                                                                                                                                                                                            cases c241 : f_I_init (st236.2.2.2 3) (xsN (xsR st236 8 i237 (4 : Int32).toNatClampNeg (some (st229.2.2.2 3))) 3) with
                                                                                                                                                                                                            | none => rw [c241] at h; cases h
                                                                                                                                                                                                            | some w297 =>
                                                                                                                                                                                                              obtain ⟨v242, st243⟩ := w297
                                                                                                                                                                                                              rw [c241] at h
                                                                                                                                                                                                              dsimp only at h
                                                                                                                                                                                                              refine x_callI (mc := 2) (ms := 67) (pc := 138) (bL := []) (K := [xR 3 (some (st236.2.2.2 3)), xI (5), xR 8 ((xsR st236 8 i237 (4 : Int32).toNatClampNeg (some (st229.2.2.2 3))).2.2.1 0 x0 2)]) C cs_D_49 (m_I_init l c241 : x_M l _ _ _ _ (.inl none) _ 2 67) (by decide) rfl (Nat.le_of_ble_eq_true rfl) (d_D_init 69 rfl) ?_
                                                                                                                                                                                                              cases c245 : (xsR st236 8 i237 (4 : Int32).toNatClampNeg (some (st229.2.2.2 3))).2.2.1 0 x0 2 with
                                                                                                                                                                                                              | none => rw [c245] at h; cases h
                                                                                                                                                                                                              | some i244 =>
                                                                                                                                                                                                                rw [c245] at h
                                                                                                                                                                                                                dsimp only at h
                                                                                                                                                                                                                by_cases b246 : x_in 5 6
                                                                                                                                                                                                                · rw [if_pos b246] at h
                                                                                                                                                                                                                  refine x_aast (pc := 141) C ar_8 rfl rfl rfl rfl b246 (d_D_init 70 rfl) ?_
                                                                                                                                                                                                                  refine x_iinc (pc := 142) (v := 6) (L2 := [(1, xI (6)), (0, xR 0 (some (x0)))]) C (d_D_init 71 rfl) 0 rfl (by decide) (by decide) rfl ?_
                                                                                                                                                                                                                  refine x_goto (pc := 145) (tgt := 123) C (d_D_init 72 rfl) (by decide) ?_
                                                                                                                                                                                                                  refine x_iload_n (pc := 123) C (d_D_init 61 rfl) rfl 0 rfl ?_
                                                                                                                                                                                                                  refine x_bipush (pc := 124) (v := 6) C (by decide) (d_D_init 62 rfl) ?_
                                                                                                                                                                                                                  refine x_icmp_ge (pc := 126) (tgt := 148) C (d_D_init 63 rfl) (by decide) (fun c247 => ?_) (fun c247 => absurd c247 (by decide))
                                                                                                                                                                                                                  refine x_iconst (pc := 148) (v := 0) C (by decide) (d_D_init 73 rfl) ?_
                                                                                                                                                                                                                  refine x_istore_n (pc := 149) (L2 := [(1, xI (0)), (0, xR 0 (some (x0)))]) C (d_D_init 74 rfl) rfl (by decide) rfl ?_
                                                                                                                                                                                                                  refine x_iload_n (pc := 150) C (d_D_init 75 rfl) rfl 0 rfl ?_
                                                                                                                                                                                                                  refine x_bipush (pc := 151) (v := 6) C (by decide) (d_D_init 76 rfl) ?_
                                                                                                                                                                                                                  refine x_icmp_ge (pc := 153) (tgt := 175) C (d_D_init 77 rfl) (by decide) (fun c248 => absurd c248 (by decide)) (fun c248 => ?_)
                                                                                                                                                                                                                  refine x_aload_n (pc := 156) C (d_D_init 78 rfl) rfl 1 rfl ?_
                                                                                                                                                                                                                  refine x_getR (pc := 157) (t := 9) C fl_D_29 rfl rfl (d_D_init 79 rfl) ?_
                                                                                                                                                                                                                  refine x_iload_n (pc := 160) C (d_D_init 80 rfl) rfl 0 rfl ?_
                                                                                                                                                                                                                  refine x_newn (n := st243.2.2.2 4) (pc := 161) (q := 4) (by rfl) C rfl rfl w_29 w_122 w_6 df_4 (Nat.le_of_ble_eq_true rfl) (Nat.le_of_ble_eq_true rfl) (d_D_init 81 rfl) ?_
                                                                                                                                                                                                                  refine x_dup (pc := 164) C rfl (d_D_init 82 rfl) ?_
                                                                                                                                                                                                                  cases c249 : f_F_init (st243.2.2.2 4) (xsN (xsR st243 8 i244 (5 : Int32).toNatClampNeg (some (st236.2.2.2 3))) 4) with
                                                                                                                                                                                                                  | none => rw [c249] at h; cases h
                                                                                                                                                                                                                  | some w296 =>
                                                                                                                                                                                                                    obtain ⟨v250, st251⟩ := w296
                                                                                                                                                                                                                    rw [c249] at h
                                                                                                                                                                                                                    dsimp only at h
                                                                                                                                                                                                                    refine x_callI (mc := 1) (ms := 64) (pc := 165) (bL := []) (K := [xR 4 (some (st243.2.2.2 4)), xI (0), xR 9 ((xsR st243 8 i244 (5 : Int32).toNatClampNeg (some (st236.2.2.2 3))).2.2.1 0 x0 3)]) C cs_D_50 (m_F_init l c249 : x_M l _ _ _ _ (.inl none) _ 1 64) (by decide) rfl (Nat.le_of_ble_eq_true rfl) (d_D_init 83 rfl) ?_
                                                                                                                                                                                                                    cases c253 : (xsR st243 8 i244 (5 : Int32).toNatClampNeg (some (st236.2.2.2 3))).2.2.1 0 x0 3 with
                                                                                                                                                                                                                    | none => rw [c253] at h; cases h
                                                                                                                                                                                                                    | some i252 =>
                                                                                                                                                                                                                      rw [c253] at h
                                                                                                                                                                                                                      dsimp only at h
                                                                                                                                                                                                                      by_cases b254 : x_in 0 6
                                                                                                                                                                                                                      · rw [if_pos b254] at h
                                                                                                                                                                                                                        refine x_aast (pc := 168) C ar_9 rfl rfl rfl rfl b254 (d_D_init 84 rfl) ?_
                                                                                                                                                                                                                        refine x_iinc (pc := 169) (v := 1) (L2 := [(1, xI (1)), (0, xR 0 (some (x0)))]) C (d_D_init 85 rfl) 0 rfl (by decide) (by decide) rfl ?_
                                                                                                                                                                                                                        refine x_goto (pc := 172) (tgt := 150) C (d_D_init 86 rfl) (by decide) ?_
                                                                                                                                                                                                                        refine x_iload_n (pc := 150) C (d_D_init 75 rfl) rfl 0 rfl ?_
                                                                                                                                                                                                                        refine x_bipush (pc := 151) (v := 6) C (by decide) (d_D_init 76 rfl) ?_
                                                                                                                                                                                                                        refine x_icmp_ge (pc := 153) (tgt := 175) C (d_D_init 77 rfl) (by decide) (fun c255 => absurd c255 (by decide)) (fun c255 => ?_)
                                                                                                                                                                                                                        refine x_aload_n (pc := 156) C (d_D_init 78 rfl) rfl 1 rfl ?_
                                                                                                                                                                                                                        refine x_getR (pc := 157) (t := 9) C fl_D_29 rfl rfl (d_D_init 79 rfl) ?_
                                                                                                                                                                                                                        refine x_iload_n (pc := 160) C (d_D_init 80 rfl) rfl 0 rfl ?_
                                                                                                                                                                                                                        refine x_newn (n := st251.2.2.2 4) (pc := 161) (q := 4) (by rfl) C rfl rfl w_29 w_122 w_6 df_4 (Nat.le_of_ble_eq_true rfl) (Nat.le_of_ble_eq_true rfl) (d_D_init 81 rfl) ?_
                                                                                                                                                                                                                        refine x_dup (pc := 164) C rfl (d_D_init 82 rfl) ?_
                                                                                                                                                                                                                        cases c256 : f_F_init (st251.2.2.2 4) (xsN (xsR st251 9 i252 (0 : Int32).toNatClampNeg (some (st243.2.2.2 4))) 4) with
                                                                                                                                                                                                                        | none => rw [c256] at h; cases h
                                                                                                                                                                                                                        | some w295 =>
                                                                                                                                                                                                                          obtain ⟨v257, st258⟩ := w295
                                                                                                                                                                                                                          rw [c256] at h
                                                                                                                                                                                                                          dsimp only at h
                                                                                                                                                                                                                          refine x_callI (mc := 1) (ms := 64) (pc := 165) (bL := []) (K := [xR 4 (some (st251.2.2.2 4)), xI (1), xR 9 ((xsR st251 9 i252 (0 : Int32).toNatClampNeg (some (st243.2.2.2 4))).2.2.1 0 x0 3)]) C cs_D_50 (m_F_init l c256 : x_M l _ _ _ _ (.inl none) _ 1 64) (by decide) rfl (Nat.le_of_ble_eq_true rfl) (d_D_init 83 rfl) ?_
                                                                                                                                                                                                                          cases c260 : (xsR st251 9 i252 (0 : Int32).toNatClampNeg (some (st243.2.2.2 4))).2.2.1 0 x0 3 with
                                                                                                                                                                                                                          | none => rw [c260] at h; cases h
                                                                                                                                                                                                                          | some i259 =>
                                                                                                                                                                                                                            rw [c260] at h
                                                                                                                                                                                                                            dsimp only at h
                                                                                                                                                                                                                            by_cases b261 : x_in 1 6
                                                                                                                                                                                                                            · rw [if_pos b261] at h
                                                                                                                                                                                                                              refine x_aast (pc := 168) C ar_9 rfl rfl rfl rfl b261 (d_D_init 84 rfl) ?_
                                                                                                                                                                                                                              refine x_iinc (pc := 169) (v := 2) (L2 := [(1, xI (2)), (0, xR 0 (some (x0)))]) C (d_D_init 85 rfl) 0 rfl (by decide) (by decide) rfl ?_
                                                                                                                                                                                                                              refine x_goto (pc := 172) (tgt := 150) C (d_D_init 86 rfl) (by decide) ?_
                                                                                                                                                                                                                              refine x_iload_n (pc := 150) C (d_D_init 75 rfl) rfl 0 rfl ?_
                                                                                                                                                                                                                              refine x_bipush (pc := 151) (v := 6) C (by decide) (d_D_init 76 rfl) ?_
                                                                                                                                                                                                                              refine x_icmp_ge (pc := 153) (tgt := 175) C (d_D_init 77 rfl) (by decide) (fun c262 => absurd c262 (by decide)) (fun c262 => ?_)
                                                                                                                                                                                                                              refine x_aload_n (pc := 156) C (d_D_init 78 rfl) rfl 1 rfl ?_
                                                                                                                                                                                                                              refine x_getR (pc := 157) (t := 9) C fl_D_29 rfl rfl (d_D_init 79 rfl) ?_
                                                                                                                                                                                                                              refine x_iload_n (pc := 160) C (d_D_init 80 rfl) rfl 0 rfl ?_
                                                                                                                                                                                                                              refine x_newn (n := st258.2.2.2 4) (pc := 161) (q := 4) (by rfl) C rfl rfl w_29 w_122 w_6 df_4 (Nat.le_of_ble_eq_true rfl) (Nat.le_of_ble_eq_true rfl) (d_D_init 81 rfl) ?_
                                                                                                                                                                                                                              refine x_dup (pc := 164) C rfl (d_D_init 82 rfl) ?_
                                                                                                                                                                                                                              cases c263 : f_F_init (st258.2.2.2 4) (xsN (xsR st258 9 i259 (1 : Int32).toNatClampNeg (some (st251.2.2.2 4))) 4) with
                                                                                                                                                                                                                              | none => rw [c263] at h; cases h
                                                                                                                                                                                                                              | some w294 =>
                                                                                                                                                                                                                                obtain ⟨v264, st265⟩ := w294
                                                                                                                                                                                                                                rw [c263] at h
                                                                                                                                                                                                                                dsimp only at h
                                                                                                                                                                                                                                refine x_callI (mc := 1) (ms := 64) (pc := 165) (bL := []) (K := [xR 4 (some (st258.2.2.2 4)), xI (2), xR 9 ((xsR st258 9 i259 (1 : Int32).toNatClampNeg (some (st251.2.2.2 4))).2.2.1 0 x0 3)]) C cs_D_50 (m_F_init l c263 : x_M l _ _ _ _ (.inl none) _ 1 64) (by decide) rfl (Nat.le_of_ble_eq_true rfl) (d_D_init 83 rfl) ?_
                                                                                                                                                                                                                                cases c267 : (xsR st258 9 i259 (1 : Int32).toNatClampNeg (some (st251.2.2.2 4))).2.2.1 0 x0 3 with
                                                                                                                                                                                                                                | none => rw [c267] at h; cases h
                                                                                                                                                                                                                                | some i266 =>
                                                                                                                                                                                                                                  rw [c267] at h
                                                                                                                                                                                                                                  dsimp only at h
                                                                                                                                                                                                                                  by_cases b268 : x_in 2 6
                                                                                                                                                                                                                                  · rw [if_pos b268] at h
                                                                                                                                                                                                                                    refine x_aast (pc := 168) C ar_9 rfl rfl rfl rfl b268 (d_D_init 84 rfl) ?_
                                                                                                                                                                                                                                    refine x_iinc (pc := 169) (v := 3) (L2 := [(1, xI (3)), (0, xR 0 (some (x0)))]) C (d_D_init 85 rfl) 0 rfl (by decide) (by decide) rfl ?_
                                                                                                                                                                                                                                    refine x_goto (pc := 172) (tgt := 150) C (d_D_init 86 rfl) (by decide) ?_
                                                                                                                                                                                                                                    refine x_iload_n (pc := 150) C (d_D_init 75 rfl) rfl 0 rfl ?_
                                                                                                                                                                                                                                    refine x_bipush (pc := 151) (v := 6) C (by decide) (d_D_init 76 rfl) ?_
                                                                                                                                                                                                                                    refine x_icmp_ge (pc := 153) (tgt := 175) C (d_D_init 77 rfl) (by decide) (fun c269 => absurd c269 (by decide)) (fun c269 => ?_)
                                                                                                                                                                                                                                    refine x_aload_n (pc := 156) C (d_D_init 78 rfl) rfl 1 rfl ?_
                                                                                                                                                                                                                                    refine x_getR (pc := 157) (t := 9) C fl_D_29 rfl rfl (d_D_init 79 rfl) ?_
                                                                                                                                                                                                                                    refine x_iload_n (pc := 160) C (d_D_init 80 rfl) rfl 0 rfl ?_
                                                                                                                                                                                                                                    refine x_newn (n := st265.2.2.2 4) (pc := 161) (q := 4) (by rfl) C rfl rfl w_29 w_122 w_6 df_4 (Nat.le_of_ble_eq_true rfl) (Nat.le_of_ble_eq_true rfl) (d_D_init 81 rfl) ?_
                                                                                                                                                                                                                                    refine x_dup (pc := 164) C rfl (d_D_init 82 rfl) ?_
                                                                                                                                                                                                                                    cases c270 : f_F_init (st265.2.2.2 4) (xsN (xsR st265 9 i266 (2 : Int32).toNatClampNeg (some (st258.2.2.2 4))) 4) with
                                                                                                                                                                                                                                    | none => rw [c270] at h; cases h
                                                                                                                                                                                                                                    | some w293 =>
                                                                                                                                                                                                                                      obtain ⟨v271, st272⟩ := w293
                                                                                                                                                                                                                                      rw [c270] at h
                                                                                                                                                                                                                                      dsimp only at h
                                                                                                                                                                                                                                      refine x_callI (mc := 1) (ms := 64) (pc := 165) (bL := []) (K := [xR 4 (some (st265.2.2.2 4)), xI (3), xR 9 ((xsR st265 9 i266 (2 : Int32).toNatClampNeg (some (st258.2.2.2 4))).2.2.1 0 x0 3)]) C cs_D_50 (m_F_init l c270 : x_M l _ _ _ _ (.inl none) _ 1 64) (by decide) rfl (Nat.le_of_ble_eq_true rfl) (d_D_init 83 rfl) ?_
                                                                                                                                                                                                                                      cases c274 : (xsR st265 9 i266 (2 : Int32).toNatClampNeg (some (st258.2.2.2 4))).2.2.1 0 x0 3 with
                                                                                                                                                                                                                                      | none => rw [c274] at h; cases h
                                                                                                                                                                                                                                      | some i273 =>
                                                                                                                                                                                                                                        rw [c274] at h
                                                                                                                                                                                                                                        dsimp only at h
                                                                                                                                                                                                                                        by_cases b275 : x_in 3 6
                                                                                                                                                                                                                                        · rw [if_pos b275] at h
                                                                                                                                                                                                                                          refine x_aast (pc := 168) C ar_9 rfl rfl rfl rfl b275 (d_D_init 84 rfl) ?_
                                                                                                                                                                                                                                          refine x_iinc (pc := 169) (v := 4) (L2 := [(1, xI (4)), (0, xR 0 (some (x0)))]) C (d_D_init 85 rfl) 0 rfl (by decide) (by decide) rfl ?_
                                                                                                                                                                                                                                          refine x_goto (pc := 172) (tgt := 150) C (d_D_init 86 rfl) (by decide) ?_
                                                                                                                                                                                                                                          refine x_iload_n (pc := 150) C (d_D_init 75 rfl) rfl 0 rfl ?_
                                                                                                                                                                                                                                          refine x_bipush (pc := 151) (v := 6) C (by decide) (d_D_init 76 rfl) ?_
                                                                                                                                                                                                                                          refine x_icmp_ge (pc := 153) (tgt := 175) C (d_D_init 77 rfl) (by decide) (fun c276 => absurd c276 (by decide)) (fun c276 => ?_)
                                                                                                                                                                                                                                          refine x_aload_n (pc := 156) C (d_D_init 78 rfl) rfl 1 rfl ?_
                                                                                                                                                                                                                                          refine x_getR (pc := 157) (t := 9) C fl_D_29 rfl rfl (d_D_init 79 rfl) ?_
                                                                                                                                                                                                                                          refine x_iload_n (pc := 160) C (d_D_init 80 rfl) rfl 0 rfl ?_
                                                                                                                                                                                                                                          refine x_newn (n := st272.2.2.2 4) (pc := 161) (q := 4) (by rfl) C rfl rfl w_29 w_122 w_6 df_4 (Nat.le_of_ble_eq_true rfl) (Nat.le_of_ble_eq_true rfl) (d_D_init 81 rfl) ?_
                                                                                                                                                                                                                                          refine x_dup (pc := 164) C rfl (d_D_init 82 rfl) ?_
                                                                                                                                                                                                                                          cases c277 : f_F_init (st272.2.2.2 4) (xsN (xsR st272 9 i273 (3 : Int32).toNatClampNeg (some (st265.2.2.2 4))) 4) with
                                                                                                                                                                                                                                          | none => rw [c277] at h; cases h
                                                                                                                                                                                                                                          | some w292 =>
                                                                                                                                                                                                                                            obtain ⟨v278, st279⟩ := w292
                                                                                                                                                                                                                                            rw [c277] at h
                                                                                                                                                                                                                                            dsimp only at h
                                                                                                                                                                                                                                            refine x_callI (mc := 1) (ms := 64) (pc := 165) (bL := []) (K := [xR 4 (some (st272.2.2.2 4)), xI (4), xR 9 ((xsR st272 9 i273 (3 : Int32).toNatClampNeg (some (st265.2.2.2 4))).2.2.1 0 x0 3)]) C cs_D_50 (m_F_init l c277 : x_M l _ _ _ _ (.inl none) _ 1 64) (by decide) rfl (Nat.le_of_ble_eq_true rfl) (d_D_init 83 rfl) ?_
                                                                                                                                                                                                                                            cases c281 : (xsR st272 9 i273 (3 : Int32).toNatClampNeg (some (st265.2.2.2 4))).2.2.1 0 x0 3 with
                                                                                                                                                                                                                                            | none => rw [c281] at h; cases h
                                                                                                                                                                                                                                            | some i280 =>
                                                                                                                                                                                                                                              rw [c281] at h
                                                                                                                                                                                                                                              dsimp only at h
                                                                                                                                                                                                                                              by_cases b282 : x_in 4 6
                                                                                                                                                                                                                                              · rw [if_pos b282] at h
                                                                                                                                                                                                                                                refine x_aast (pc := 168) C ar_9 rfl rfl rfl rfl b282 (d_D_init 84 rfl) ?_
                                                                                                                                                                                                                                                refine x_iinc (pc := 169) (v := 5) (L2 := [(1, xI (5)), (0, xR 0 (some (x0)))]) C (d_D_init 85 rfl) 0 rfl (by decide) (by decide) rfl ?_
                                                                                                                                                                                                                                                refine x_goto (pc := 172) (tgt := 150) C (d_D_init 86 rfl) (by decide) ?_
                                                                                                                                                                                                                                                refine x_iload_n (pc := 150) C (d_D_init 75 rfl) rfl 0 rfl ?_
                                                                                                                                                                                                                                                refine x_bipush (pc := 151) (v := 6) C (by decide) (d_D_init 76 rfl) ?_
                                                                                                                                                                                                                                                refine x_icmp_ge (pc := 153) (tgt := 175) C (d_D_init 77 rfl) (by decide) (fun c283 => absurd c283 (by decide)) (fun c283 => ?_)
                                                                                                                                                                                                                                                refine x_aload_n (pc := 156) C (d_D_init 78 rfl) rfl 1 rfl ?_
                                                                                                                                                                                                                                                refine x_getR (pc := 157) (t := 9) C fl_D_29 rfl rfl (d_D_init 79 rfl) ?_
                                                                                                                                                                                                                                                refine x_iload_n (pc := 160) C (d_D_init 80 rfl) rfl 0 rfl ?_
                                                                                                                                                                                                                                                refine x_newn (n := st279.2.2.2 4) (pc := 161) (q := 4) (by rfl) C rfl rfl w_29 w_122 w_6 df_4 (Nat.le_of_ble_eq_true rfl) (Nat.le_of_ble_eq_true rfl) (d_D_init 81 rfl) ?_
                                                                                                                                                                                                                                                refine x_dup (pc := 164) C rfl (d_D_init 82 rfl) ?_
                                                                                                                                                                                                                                                cases c284 : f_F_init (st279.2.2.2 4) (xsN (xsR st279 9 i280 (4 : Int32).toNatClampNeg (some (st272.2.2.2 4))) 4) with
                                                                                                                                                                                                                                                | none => rw [c284] at h; cases h
                                                                                                                                                                                                                                                | some w291 =>
                                                                                                                                                                                                                                                  obtain ⟨v285, st286⟩ := w291
                                                                                                                                                                                                                                                  rw [c284] at h
                                                                                                                                                                                                                                                  dsimp only at h
                                                                                                                                                                                                                                                  refine x_callI (mc := 1) (ms := 64) (pc := 165) (bL := []) (K := [xR 4 (some (st279.2.2.2 4)), xI (5), xR 9 ((xsR st279 9 i280 (4 : Int32).toNatClampNeg (some (st272.2.2.2 4))).2.2.1 0 x0 3)]) C cs_D_50 (m_F_init l c284 : x_M l _ _ _ _ (.inl none) _ 1 64) (by decide) rfl (Nat.le_of_ble_eq_true rfl) (d_D_init 83 rfl) ?_
                                                                                                                                                                                                                                                  cases c288 : (xsR st279 9 i280 (4 : Int32).toNatClampNeg (some (st272.2.2.2 4))).2.2.1 0 x0 3 with
                                                                                                                                                                                                                                                  | none => rw [c288] at h; cases h
                                                                                                                                                                                                                                                  | some i287 =>
                                                                                                                                                                                                                                                    rw [c288] at h
                                                                                                                                                                                                                                                    dsimp only at h
                                                                                                                                                                                                                                                    by_cases b289 : x_in 5 6
                                                                                                                                                                                                                                                    · rw [if_pos b289] at h
                                                                                                                                                                                                                                                      refine x_aast (pc := 168) C ar_9 rfl rfl rfl rfl b289 (d_D_init 84 rfl) ?_
                                                                                                                                                                                                                                                      refine x_iinc (pc := 169) (v := 6) (L2 := [(1, xI (6)), (0, xR 0 (some (x0)))]) C (d_D_init 85 rfl) 0 rfl (by decide) (by decide) rfl ?_
                                                                                                                                                                                                                                                      refine x_goto (pc := 172) (tgt := 150) C (d_D_init 86 rfl) (by decide) ?_
                                                                                                                                                                                                                                                      refine x_iload_n (pc := 150) C (d_D_init 75 rfl) rfl 0 rfl ?_
                                                                                                                                                                                                                                                      refine x_bipush (pc := 151) (v := 6) C (by decide) (d_D_init 76 rfl) ?_
                                                                                                                                                                                                                                                      refine x_icmp_ge (pc := 153) (tgt := 175) C (d_D_init 77 rfl) (by decide) (fun c290 => ?_) (fun c290 => absurd c290 (by decide))
                                                                                                                                                                                                                                                      cases h
                                                                                                                                                                                                                                                      exact x_vret (pc := 175) C hret (Nat.le_of_ble_eq_true rfl) (Nat.le_of_ble_eq_true rfl) (d_D_init 87 rfl)
                                                                                                                                                                                                                                                    · rw [if_neg b289] at h; cases h
                                                                                                                                                                                                                                              · rw [if_neg b282] at h; cases h
                                                                                                                                                                                                                                        · rw [if_neg b275] at h; cases h
                                                                                                                                                                                                                                  · rw [if_neg b268] at h; cases h
                                                                                                                                                                                                                            · rw [if_neg b261] at h; cases h
                                                                                                                                                                                                                      · rw [if_neg b254] at h; cases h
                                                                                                                                                                                                                · rw [if_neg b246] at h; cases h
                                                                                                                                                                                                          · rw [if_neg b239] at h; cases h
                                                                                                                                                                                                    · rw [if_neg b232] at h; cases h
                                                                                                                                                                                              · rw [if_neg b225] at h; cases h
                                                                                                                                                                                        · rw [if_neg b218] at h; cases h
                                                                                                                                                                                  · rw [if_neg b211] at h; cases h
                                                                                                                                                                            · rw [if_neg b203] at h; cases h
                                                                                                                                                                      · rw [if_neg b196] at h; cases h
                                                                                                                                                                · rw [if_neg b189] at h; cases h
                                                                                                                                                          · rw [if_neg b182] at h; cases h
                                                                                                                                                    · rw [if_neg b175] at h; cases h
                                                                                                                                              · rw [if_neg b168] at h; cases h
                                                                                                                                        · rw [if_neg b161] at h; cases h
                                                                                                                                  · rw [if_neg b154] at h; cases h
                                                                                                                            · rw [if_neg b147] at h; cases h
                                                                                                                      · rw [if_neg b140] at h; cases h
                                                                                                                · rw [if_neg b133] at h; cases h
                                                                                                          · rw [if_neg b126] at h; cases h
                                                                                                    · rw [if_neg b119] at h; cases h
                                                                                              · rw [if_neg b112] at h; cases h
                                                                                        · rw [if_neg b105] at h; cases h
                                                                                  · rw [if_neg b98] at h; cases h
                                                                            · rw [if_neg b91] at h; cases h
                                                                      · rw [if_neg b84] at h; cases h
                                                                · rw [if_neg b77] at h; cases h
                                                          · rw [if_neg b70] at h; cases h
                                                    · rw [if_neg b62] at h; cases h
                                              · rw [if_neg b55] at h; cases h
                                        · rw [if_neg b48] at h; cases h
                                  · rw [if_neg b41] at h; cases h
                            · rw [if_neg b34] at h; cases h
                      · rw [if_neg b27] at h; cases h
                · rw [if_neg b20] at h; cases h
          · rw [if_neg b13] at h; cases h
def f_M_init_173  : Nat → Nat → Int32 → XS → Option (Unit × XS)
  | 0, _, _, _ => none
  | n + 1, x0, x1, st =>
    if 8 ≤ x1 then
      some ((), st)
    else
      match st.2.2.1 32 x0 2 with
      | none => none
      | some i2 =>
        if x_in x1 8 then
          f_M_init_173 n x0 (x1 + 1) (xsI st 34 i2 x1.toNatClampNeg ((-1)))
        else none
set_option maxRecDepth 100000 in
set_option maxHeartbeats 4000000 in
theorem v_M_init_173 {p : Program} {l : Launch} {e : Env} {s : State} {m : MethodId} {args : Array Value} {below : List Frame} {meth : Method} {c : Code} {D : va_G} {cA : Nat → ClassId} {g0 : Nat → Nat → Nat} {n0 : Nat → Nat} {r : Unit} {st2 : XS} (C : x_C p e rm_M_init s m args meth c D cA (x_A g0 n0 s.heap.size) M_M_init.2.1 M_M_init.1 M_M_init.2.2.1) (hret : meth.sig.returnType = M_M_init.2.2.2.1) (hmn : meth.name = M_M_init.2.2.2.2.2) (hex : c.exceptionTable.toList.map (fun h => (h.startPc, h.endPc, h.handlerPc, h.catchType)) = M_M_init.2.2.2.2.1)  : ∀ (n : Nat) (x0 : Nat) (x1 : Int32) (st : XS), f_M_init_173 n x0 x1 st = some (r, st2) → x_V p l e rm_M_init s m args below meth c D cA (x_A g0 n0 s.heap.size) M_M_init.2.2.1 g0 n0 (x_MQ D cA g0 n0 below s 18 882 (.inl (none)) st2) 173 [(0, xR 32 (some (x0))), (1, xI (x1))] [] st 18 882 := by
  intro n
  induction n with
  | zero => intro x0 x1 st h; cases h
  | succ n ih =>
    intro x0 x1 st h
    rw [f_M_init_173.eq_def] at h
    dsimp only at h
    refine x_iload_n (pc := 173) C (d_M_init 88 rfl) rfl 1 rfl ?_
    refine x_bipush (pc := 174) (v := 8) C (by decide) (d_M_init 89 rfl) ?_
    refine x_icmp_ge (pc := 176) (tgt := 192) C (d_M_init 90 rfl) (by decide) (fun c1 => ?_) (fun c1 => ?_)
    · rw [if_pos c1] at h
      cases h
      exact x_vret (pc := 192) C hret (Nat.le_of_ble_eq_true rfl) (Nat.le_of_ble_eq_true rfl) (d_M_init 98 rfl)
    · rw [if_neg c1] at h
      refine x_aload_n (pc := 179) C (d_M_init 91 rfl) rfl 0 rfl ?_
      refine x_getR (pc := 180) (t := 34) C fl_M_13 rfl rfl (d_M_init 92 rfl) ?_
      refine x_iload_n (pc := 183) C (d_M_init 93 rfl) rfl 1 rfl ?_
      refine x_iconst (pc := 184) (v := (-1)) C (by decide) (d_M_init 94 rfl) ?_
      cases c3 : st.2.2.1 32 x0 2 with
      | none => rw [c3] at h; cases h
      | some i2 =>
        rw [c3] at h
        dsimp only at h
        by_cases b4 : x_in x1 8
        · rw [if_pos b4] at h
          refine x_iast (pc := 185) C ar_34 b4 (d_M_init 95 rfl) ?_
          refine x_iinc (pc := 186) (v := x1 + 1) (L2 := [(1, xI (x1 + 1)), (0, xR 32 (some (x0)))]) C (d_M_init 96 rfl) 1 rfl rfl (by decide) rfl ?_
          refine x_goto (pc := 189) (tgt := 173) C (d_M_init 97 rfl) (by decide) ?_
          exact x_sub [1, 0] rfl (ih _ _ _ h)
        · rw [if_neg b4] at h; cases h
def f_M_init_152  : Nat → Nat → Int32 → XS → Option (Unit × XS)
  | 0, _, _, _ => none
  | n + 1, x0, x1, st =>
    if 64 ≤ x1 then
      f_M_init_173 100 x0 0 st
    else
      match st.2.2.1 32 x0 4 with
      | none => none
      | some i6 =>
        if x_in x1 64 then
          f_M_init_152 n x0 (x1 + 1) (xsI st 36 i6 x1.toNatClampNeg ((-1)))
        else none
set_option maxRecDepth 100000 in
set_option maxHeartbeats 4000000 in
theorem v_M_init_152 {p : Program} {l : Launch} {e : Env} {s : State} {m : MethodId} {args : Array Value} {below : List Frame} {meth : Method} {c : Code} {D : va_G} {cA : Nat → ClassId} {g0 : Nat → Nat → Nat} {n0 : Nat → Nat} {r : Unit} {st2 : XS} (C : x_C p e rm_M_init s m args meth c D cA (x_A g0 n0 s.heap.size) M_M_init.2.1 M_M_init.1 M_M_init.2.2.1) (hret : meth.sig.returnType = M_M_init.2.2.2.1) (hmn : meth.name = M_M_init.2.2.2.2.2) (hex : c.exceptionTable.toList.map (fun h => (h.startPc, h.endPc, h.handlerPc, h.catchType)) = M_M_init.2.2.2.2.1)  : ∀ (n : Nat) (x0 : Nat) (x1 : Int32) (st : XS), f_M_init_152 n x0 x1 st = some (r, st2) → x_V p l e rm_M_init s m args below meth c D cA (x_A g0 n0 s.heap.size) M_M_init.2.2.1 g0 n0 (x_MQ D cA g0 n0 below s 18 882 (.inl (none)) st2) 152 [(0, xR 32 (some (x0))), (1, xI (x1))] [] st 18 882 := by
  intro n
  induction n with
  | zero => intro x0 x1 st h; cases h
  | succ n ih =>
    intro x0 x1 st h
    rw [f_M_init_152.eq_def] at h
    dsimp only at h
    refine x_iload_n (pc := 152) C (d_M_init 76 rfl) rfl 1 rfl ?_
    refine x_bipush (pc := 153) (v := 64) C (by decide) (d_M_init 77 rfl) ?_
    refine x_icmp_ge (pc := 155) (tgt := 171) C (d_M_init 78 rfl) (by decide) (fun c5 => ?_) (fun c5 => ?_)
    · rw [if_pos c5] at h
      refine x_iconst (pc := 171) (v := 0) C (by decide) (d_M_init 86 rfl) ?_
      refine x_istore_n (pc := 172) (L2 := [(1, xI (0)), (0, xR 32 (some (x0)))]) C (d_M_init 87 rfl) rfl (by decide) rfl ?_
      exact x_sub [1, 0] rfl (v_M_init_173 C hret hmn hex 100 _ _ _ h)
    · rw [if_neg c5] at h
      refine x_aload_n (pc := 158) C (d_M_init 79 rfl) rfl 0 rfl ?_
      refine x_getR (pc := 159) (t := 36) C fl_M_19 rfl rfl (d_M_init 80 rfl) ?_
      refine x_iload_n (pc := 162) C (d_M_init 81 rfl) rfl 1 rfl ?_
      refine x_iconst (pc := 163) (v := (-1)) C (by decide) (d_M_init 82 rfl) ?_
      cases c7 : st.2.2.1 32 x0 4 with
      | none => rw [c7] at h; cases h
      | some i6 =>
        rw [c7] at h
        dsimp only at h
        by_cases b8 : x_in x1 64
        · rw [if_pos b8] at h
          refine x_iast (pc := 164) C ar_36 b8 (d_M_init 83 rfl) ?_
          refine x_iinc (pc := 165) (v := x1 + 1) (L2 := [(1, xI (x1 + 1)), (0, xR 32 (some (x0)))]) C (d_M_init 84 rfl) 1 rfl rfl (by decide) rfl ?_
          refine x_goto (pc := 168) (tgt := 152) C (d_M_init 85 rfl) (by decide) ?_
          exact x_sub [1, 0] rfl (ih _ _ _ h)
        · rw [if_neg b8] at h; cases h
def f_M_init (x0 : Nat) (st : XS) : Option (Unit × XS) :=
  f_M_init_152 100 x0 0 (xsR (xsN (xsR (xsN (xsR (xsN (xsR (xsN (xsR (xsN (xsR (xsN (xsR (xsN (xsR (xsN (xsR (xsN (xsR (xsN (xsR (xsN (xsR (xsN (xsR (xsN (xsR (xsN (xsR (xsN (xsR (xsN (xsR (xsN (xsR (xsN st 33) 32 x0 1 (some (st.2.2.2 33))) 34) 32 x0 2 (some (st.2.2.2 34))) 35) 32 x0 3 (some (st.2.2.2 35))) 36) 32 x0 4 (some (st.2.2.2 36))) 37) 32 x0 5 (some (st.2.2.2 37))) 38) 32 x0 6 (some (st.2.2.2 38))) 39) 32 x0 7 (some (st.2.2.2 39))) 40) 32 x0 8 (some (st.2.2.2 40))) 41) 32 x0 9 (some (st.2.2.2 41))) 42) 32 x0 10 (some (st.2.2.2 42))) 43) 32 x0 11 (some (st.2.2.2 43))) 44) 32 x0 12 (some (st.2.2.2 44))) 45) 32 x0 13 (some (st.2.2.2 45))) 46) 32 x0 14 (some (st.2.2.2 46))) 47) 32 x0 15 (some (st.2.2.2 47))) 48) 32 x0 16 (some (st.2.2.2 48))) 49) 32 x0 18 (some (st.2.2.2 49))) 50) 32 x0 20 (some (st.2.2.2 50)))
set_option maxRecDepth 100000 in
set_option maxHeartbeats 4000000 in
theorem m_M_init (l : Launch) {x0 : Nat} {st : XS} {r : Unit} {st2 : XS} (h : f_M_init x0 st = some (r, st2)) : x_M l M_M_init rm_M_init [xR 32 (some (x0))] st (.inl (none)) st2 18 882 := by
  refine x_enter (Nat.le_of_ble_eq_true rfl) ?_
  intro p e s m below meth c D cA g args B C
  have hret := B.2.2.2.2.2.2.2.2.1
  have hmn := B.2.2.2.2.2.2.2.1
  have hex := B.2.2.2.2.2.2.2.2.2.1
  unfold f_M_init at h
  refine x_aload_n (pc := 0) C (d_M_init 0 rfl) rfl 0 rfl ?_
  refine x_oinit (pc := 1) C w_620 w_21 w_22 (by decide) (Nat.le_of_ble_eq_true rfl) (d_M_init 1 rfl) ?_
  refine x_aload_n (pc := 4) C (d_M_init 2 rfl) rfl 0 rfl ?_
  refine x_bipush (pc := 5) (v := 8) C (by decide) (d_M_init 3 rfl) ?_
  refine x_newan (n := st.2.2.2 33) (pc := 7) (by rfl) C ar_33 rfl rfl (fun _ h => h) w_48 (by decide) (by decide) (by decide) (Nat.le_of_ble_eq_true rfl) (Nat.le_of_ble_eq_true rfl) (d_M_init 4 rfl) ?_
  refine x_putR (pc := 9) C fl_M_7 (pf_M_7 hmn) rfl (Or.inr rfl) ty_32_1 (d_M_init 5 rfl) ?_
  refine x_aload_n (pc := 12) C (d_M_init 6 rfl) rfl 0 rfl ?_
  refine x_bipush (pc := 13) (v := 8) C (by decide) (d_M_init 7 rfl) ?_
  refine x_newan (n := st.2.2.2 34) (pc := 15) (by rfl) C ar_34 rfl rfl (fun _ h => h) w_48 (by decide) (by decide) (by decide) (Nat.le_of_ble_eq_true rfl) (Nat.le_of_ble_eq_true rfl) (d_M_init 8 rfl) ?_
  refine x_putR (pc := 17) C fl_M_13 (pf_M_13 hmn) rfl (Or.inr rfl) ty_32_2 (d_M_init 9 rfl) ?_
  refine x_aload_n (pc := 20) C (d_M_init 10 rfl) rfl 0 rfl ?_
  refine x_bipush (pc := 21) (v := 8) C (by decide) (d_M_init 11 rfl) ?_
  refine x_newan (n := st.2.2.2 35) (pc := 23) (by rfl) C ar_35 rfl rfl (fun _ h => h) w_48 (by decide) (by decide) (by decide) (Nat.le_of_ble_eq_true rfl) (Nat.le_of_ble_eq_true rfl) (d_M_init 12 rfl) ?_
  refine x_putR (pc := 25) C fl_M_16 (pf_M_16 hmn) rfl (Or.inr rfl) ty_32_3 (d_M_init 13 rfl) ?_
  refine x_aload_n (pc := 28) C (d_M_init 14 rfl) rfl 0 rfl ?_
  refine x_bipush (pc := 29) (v := 64) C (by decide) (d_M_init 15 rfl) ?_
  refine x_newan (n := st.2.2.2 36) (pc := 31) (by rfl) C ar_36 rfl rfl (fun _ h => h) w_48 (by decide) (by decide) (by decide) (Nat.le_of_ble_eq_true rfl) (Nat.le_of_ble_eq_true rfl) (d_M_init 16 rfl) ?_
  refine x_putR (pc := 33) C fl_M_19 (pf_M_19 hmn) rfl (Or.inr rfl) ty_32_4 (d_M_init 17 rfl) ?_
  refine x_aload_n (pc := 36) C (d_M_init 18 rfl) rfl 0 rfl ?_
  refine x_bipush (pc := 37) (v := 8) C (by decide) (d_M_init 19 rfl) ?_
  refine x_newan (n := st.2.2.2 37) (pc := 39) (by rfl) C ar_37 rfl rfl (fun _ h => h) w_685 (by decide) (by decide) (by decide) (Nat.le_of_ble_eq_true rfl) (Nat.le_of_ble_eq_true rfl) (d_M_init 20 rfl) ?_
  refine x_putR (pc := 41) C fl_M_22 (pf_M_22 hmn) rfl (Or.inr rfl) ty_32_5 (d_M_init 21 rfl) ?_
  refine x_aload_n (pc := 44) C (d_M_init 22 rfl) rfl 0 rfl ?_
  refine x_bipush (pc := 45) (v := 20) C (by decide) (d_M_init 23 rfl) ?_
  refine x_newan (n := st.2.2.2 38) (pc := 47) (by rfl) C ar_38 rfl rfl (fun _ h => h) w_48 (by decide) (by decide) (by decide) (Nat.le_of_ble_eq_true rfl) (Nat.le_of_ble_eq_true rfl) (d_M_init 24 rfl) ?_
  refine x_putR (pc := 49) C fl_M_26 (pf_M_26 hmn) rfl (Or.inr rfl) ty_32_6 (d_M_init 25 rfl) ?_
  refine x_aload_n (pc := 52) C (d_M_init 26 rfl) rfl 0 rfl ?_
  refine x_bipush (pc := 53) (v := 20) C (by decide) (d_M_init 27 rfl) ?_
  refine x_newan (n := st.2.2.2 39) (pc := 55) (by rfl) C ar_39 rfl rfl (fun _ h => h) w_48 (by decide) (by decide) (by decide) (Nat.le_of_ble_eq_true rfl) (Nat.le_of_ble_eq_true rfl) (d_M_init 28 rfl) ?_
  refine x_putR (pc := 57) C fl_M_29 (pf_M_29 hmn) rfl (Or.inr rfl) ty_32_7 (d_M_init 29 rfl) ?_
  refine x_aload_n (pc := 60) C (d_M_init 30 rfl) rfl 0 rfl ?_
  refine x_bipush (pc := 61) (v := 20) C (by decide) (d_M_init 31 rfl) ?_
  refine x_newan (n := st.2.2.2 40) (pc := 63) (by rfl) C ar_40 rfl rfl (fun _ h => h) w_48 (by decide) (by decide) (by decide) (Nat.le_of_ble_eq_true rfl) (Nat.le_of_ble_eq_true rfl) (d_M_init 32 rfl) ?_
  refine x_putR (pc := 65) C fl_M_32 (pf_M_32 hmn) rfl (Or.inr rfl) ty_32_8 (d_M_init 33 rfl) ?_
  refine x_aload_n (pc := 68) C (d_M_init 34 rfl) rfl 0 rfl ?_
  refine x_bipush (pc := 69) (v := 20) C (by decide) (d_M_init 35 rfl) ?_
  refine x_newan (n := st.2.2.2 41) (pc := 71) (by rfl) C ar_41 rfl rfl (fun _ h => h) w_48 (by decide) (by decide) (by decide) (Nat.le_of_ble_eq_true rfl) (Nat.le_of_ble_eq_true rfl) (d_M_init 36 rfl) ?_
  refine x_putR (pc := 73) C fl_M_35 (pf_M_35 hmn) rfl (Or.inr rfl) ty_32_9 (d_M_init 37 rfl) ?_
  refine x_aload_n (pc := 76) C (d_M_init 38 rfl) rfl 0 rfl ?_
  refine x_bipush (pc := 77) (v := 6) C (by decide) (d_M_init 39 rfl) ?_
  refine x_newan (n := st.2.2.2 42) (pc := 79) (by rfl) C ar_42 rfl rfl (fun _ h => h) w_48 (by decide) (by decide) (by decide) (Nat.le_of_ble_eq_true rfl) (Nat.le_of_ble_eq_true rfl) (d_M_init 40 rfl) ?_
  refine x_putR (pc := 81) C fl_M_38 (pf_M_38 hmn) rfl (Or.inr rfl) ty_32_10 (d_M_init 41 rfl) ?_
  refine x_aload_n (pc := 84) C (d_M_init 42 rfl) rfl 0 rfl ?_
  refine x_sipush (pc := 85) (v := 192) C (by decide) (d_M_init 43 rfl) ?_
  refine x_newan (n := st.2.2.2 43) (pc := 88) (by rfl) C ar_43 rfl rfl (fun _ h => h) w_48 (by decide) (by decide) (by decide) (Nat.le_of_ble_eq_true rfl) (Nat.le_of_ble_eq_true rfl) (d_M_init 44 rfl) ?_
  refine x_putR (pc := 90) C fl_M_41 (pf_M_41 hmn) rfl (Or.inr rfl) ty_32_11 (d_M_init 45 rfl) ?_
  refine x_aload_n (pc := 93) C (d_M_init 46 rfl) rfl 0 rfl ?_
  refine x_bipush (pc := 94) (v := 6) C (by decide) (d_M_init 47 rfl) ?_
  refine x_newan (n := st.2.2.2 44) (pc := 96) (by rfl) C ar_44 rfl rfl (fun _ h => h) w_686 (by decide) (by decide) (by decide) (Nat.le_of_ble_eq_true rfl) (Nat.le_of_ble_eq_true rfl) (d_M_init 48 rfl) ?_
  refine x_putR (pc := 98) C fl_M_44 (pf_M_44 hmn) rfl (Or.inr rfl) ty_32_12 (d_M_init 49 rfl) ?_
  refine x_aload_n (pc := 101) C (d_M_init 50 rfl) rfl 0 rfl ?_
  refine x_bipush (pc := 102) (v := 6) C (by decide) (d_M_init 51 rfl) ?_
  refine x_newan (n := st.2.2.2 45) (pc := 104) (by rfl) C ar_45 rfl rfl (fun _ h => h) w_686 (by decide) (by decide) (by decide) (Nat.le_of_ble_eq_true rfl) (Nat.le_of_ble_eq_true rfl) (d_M_init 52 rfl) ?_
  refine x_putR (pc := 106) C fl_M_48 (pf_M_48 hmn) rfl (Or.inr rfl) ty_32_13 (d_M_init 53 rfl) ?_
  refine x_aload_n (pc := 109) C (d_M_init 54 rfl) rfl 0 rfl ?_
  refine x_bipush (pc := 110) (v := 6) C (by decide) (d_M_init 55 rfl) ?_
  refine x_newan (n := st.2.2.2 46) (pc := 112) (by rfl) C ar_46 rfl rfl (fun _ h => h) w_48 (by decide) (by decide) (by decide) (Nat.le_of_ble_eq_true rfl) (Nat.le_of_ble_eq_true rfl) (d_M_init 56 rfl) ?_
  refine x_putR (pc := 114) C fl_M_51 (pf_M_51 hmn) rfl (Or.inr rfl) ty_32_14 (d_M_init 57 rfl) ?_
  refine x_aload_n (pc := 117) C (d_M_init 58 rfl) rfl 0 rfl ?_
  refine x_bipush (pc := 118) (v := 6) C (by decide) (d_M_init 59 rfl) ?_
  refine x_newan (n := st.2.2.2 47) (pc := 120) (by rfl) C ar_47 rfl rfl (fun _ h => h) w_48 (by decide) (by decide) (by decide) (Nat.le_of_ble_eq_true rfl) (Nat.le_of_ble_eq_true rfl) (d_M_init 60 rfl) ?_
  refine x_putR (pc := 122) C fl_M_54 (pf_M_54 hmn) rfl (Or.inr rfl) ty_32_15 (d_M_init 61 rfl) ?_
  refine x_aload_n (pc := 125) C (d_M_init 62 rfl) rfl 0 rfl ?_
  refine x_sipush (pc := 126) (v := 384) C (by decide) (d_M_init 63 rfl) ?_
  refine x_newan (n := st.2.2.2 48) (pc := 129) (by rfl) C ar_48 rfl rfl (fun _ h => h) w_48 (by decide) (by decide) (by decide) (Nat.le_of_ble_eq_true rfl) (Nat.le_of_ble_eq_true rfl) (d_M_init 64 rfl) ?_
  refine x_putR (pc := 131) C fl_M_57 (pf_M_57 hmn) rfl (Or.inr rfl) ty_32_16 (d_M_init 65 rfl) ?_
  refine x_aload_n (pc := 134) C (d_M_init 66 rfl) rfl 0 rfl ?_
  refine x_bipush (pc := 135) (v := 40) C (by decide) (d_M_init 67 rfl) ?_
  refine x_newan (n := st.2.2.2 49) (pc := 137) (by rfl) C ar_49 rfl rfl (fun _ h => h) w_48 (by decide) (by decide) (by decide) (Nat.le_of_ble_eq_true rfl) (Nat.le_of_ble_eq_true rfl) (d_M_init 68 rfl) ?_
  refine x_putR (pc := 139) C fl_M_60 (pf_M_60 hmn) rfl (Or.inr rfl) ty_32_18 (d_M_init 69 rfl) ?_
  refine x_aload_n (pc := 142) C (d_M_init 70 rfl) rfl 0 rfl ?_
  refine x_bipush (pc := 143) (v := 60) C (by decide) (d_M_init 71 rfl) ?_
  refine x_newan (n := st.2.2.2 50) (pc := 145) (by rfl) C ar_50 rfl rfl (fun _ h => h) w_48 (by decide) (by decide) (by decide) (Nat.le_of_ble_eq_true rfl) (Nat.le_of_ble_eq_true rfl) (d_M_init 72 rfl) ?_
  refine x_putR (pc := 147) C fl_M_63 (pf_M_63 hmn) rfl (Or.inr rfl) ty_32_20 (d_M_init 73 rfl) ?_
  refine x_iconst (pc := 150) (v := 0) C (by decide) (d_M_init 74 rfl) ?_
  refine x_istore_n (pc := 151) (L2 := [(1, xI (0)), (0, xR 32 (some (x0)))]) C (d_M_init 75 rfl) rfl (by decide) rfl ?_
  exact x_sub [1, 0] rfl (v_M_init_152 C hret hmn hex 100 _ _ _ h)
