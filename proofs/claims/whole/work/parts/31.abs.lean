/-! WHAT CLASS AND REFERENCE BOTH SAY: one picture of the desk; c_.. says that the class's objects hold it, m_.. that the reference's arrays hold it -/
/-- numbers by field (0 life, 1 kind, 2 thing, 3 position, 4 a row's length, 5 all that was shown), ints (0 waits through, 1 wants, 2 rights, 3 name), what was given, the bytes of the rows, descriptors; rows: k a pipe's, 8 + f a file's, 20 typed, 21 shown -/
abbrev AS : Type := (Nat → Nat → Nat) × (Nat → Nat → Int32) × ((Nat → Int64) × (Nat → Nat → Int32)) × (Nat → Nat → Option Nat)
def z_u {α : Type} (f : Nat → Nat → α) (i k : Nat) (v : α) : Nat → Nat → α := fun a b => if a = i ∧ b = k then v else f a b
def aN (a : AS) (f i v : Nat) : AS := (z_u a.1 f i v, a.2)
def aI (a : AS) (f i : Nat) (v : Int32) : AS := (a.1, z_u a.2.1 f i v, a.2.2)
def aJ (a : AS) (i : Nat) (v : Int64) : AS := (a.1, a.2.1, (fun j => if j = i then v else a.2.2.1.1 j, a.2.2.1.2), a.2.2.2)
def aD (a : AS) (i d : Nat) (v : Option Nat) : AS := (a.1, a.2.1, a.2.2.1, z_u a.2.2.2 i d v)
/-- another function of bytes for the row r -/
def aB (a : AS) (r : Nat) (g : Nat → Int32) : AS := (a.1, a.2.1, (a.2.2.1.1, fun f j => if f = r then g j else a.2.2.1.2 f j), a.2.2.2)
/-- how many descriptors an opening has -/
def z_h (a : AS) (o : Nat) : Nat := z_c (fun k => decide (a.2.2.2 (k / 8) (k % 8) = some o)) 0 64
/-- how many openings of a sort a thing has -/
def z_o (a : AS) (s k : Nat) : Nat := z_c (fun o => decide (a.1 1 o = s ∧ a.1 2 o = k)) 0 20
def c_S (R : Nat → Nat → Nat → Option Nat) : Prop :=
  (R 0 0 0 = some 0 ∧ R 0 0 1 = some 0 ∧ R 0 0 2 = some 0 ∧ R 0 0 3 = some 0 ∧ R 0 0 4 = some 0 ∧ R 0 0 5 = some 1) ∧
  (∀ i, i < 8 → R 6 0 i = some i) ∧ (∀ i, i < 20 → R 7 0 i = some i) ∧ (∀ i, i < 6 → R 8 0 i = some i) ∧ (∀ i, i < 6 → R 9 0 i = some i) ∧
  (∀ i, i < 8 → R 1 i 0 = some i) ∧ (∀ i, i < 6 → R 3 i 0 = some (i + 2)) ∧ (∀ i, i < 6 → R 4 i 0 = some i) ∧ (∀ i, i < 8 → R 5 i 0 = some i)
def c_P (a : AS) (I : Nat → Nat → Int32) (J : Nat → Nat → Int64) : Prop :=
  ∀ i, i < 8 → I i 1 = Int32.ofNat (a.1 0 i) ∧ (0 < a.1 0 i → I i 2 = a.2.1 0 i ∧ I i 3 = a.2.1 1 i ∧ J i 4 = a.2.2.1.1 i)
def c_D (a : AS) (R : Nat → Nat → Option Nat) : Prop := ∀ i, i < 8 → ∀ d, d < 8 → R i d = a.2.2.2 i d
def c_O (e : Nat → Nat) (a : AS) (I : Nat → Nat → Int32) (R : Nat → Nat → Option Nat) : Prop :=
  ∀ o, o < 20 → I o 4 = Int32.ofNat (z_h a o + e o) ∧ (0 < a.1 1 o → I o 3 = a.2.1 2 o ∧ I o 2 = Int32.ofNat (a.1 3 o) ∧
    R o 0 = (if a.1 1 o ≤ 2 then some (a.1 2 o) else none) ∧ R o 1 = (if a.1 1 o = 3 then some (a.1 2 o) else none))
def c_I (a : AS) (I : Nat → Nat → Int32) : Prop := ∀ k, k < 6 → I k 1 = Int32.ofNat (z_o a 1 k) ∧ I k 2 = Int32.ofNat (z_o a 2 k)
/-- the ring of bytes r holds the row w -/
def c_G (a : AS) (w r : Nat) (I J : Nat → Nat → Int32) : Prop :=
  I r 2 = Int32.ofNat (a.1 4 w) ∧ ∃ f, f < 64 ∧ I r 1 = Int32.ofNat f ∧ ∀ j, j < a.1 4 w → J r ((f + j) % 64) = a.2.2.1.2 w j
def c_R (a : AS) (I J : Nat → Nat → Int32) : Prop := (∀ k, k < 6 → c_G a k (k + 2) I J) ∧ c_G a 20 0 I J ∧ c_G a 21 1 I J
def c_F (a : AS) (I J : Nat → Nat → Int32) : Prop :=
  ∀ f, f < 6 → I f 1 = Int32.ofNat (a.1 4 (8 + f)) ∧ I f 2 = a.2.1 3 f ∧ I f 3 = Int32.ofNat (z_o a 3 f) ∧ ∀ j, j < a.1 4 (8 + f) → J f j = a.2.2.1.2 (8 + f) j
def c_N (a : AS) (I : Nat → Nat → Int32) : Prop := I 0 6 = Int32.ofNat (a.1 5 0)
def c_M (M st : XS) : Prop := ∀ q, 32 ≤ q → st.1 q = M.1 q ∧ st.2.1 q = M.2.1 q ∧ st.2.2.1 q = M.2.2.1 q
/-- the class's objects hold the picture a (e: holders ahead of their descriptors); the rest is M's -/
def RC (e : Nat → Nat) (a : AS) (M st : XS) : Prop :=
  c_S st.2.2.1 ∧ c_P a (st.1 1) (st.2.1 1) ∧ c_D a (st.2.2.1 10) ∧ c_O e a (st.1 2) (st.2.2.1 2) ∧ c_I a (st.1 3) ∧ c_R a (st.1 5) (st.1 12) ∧ c_F a (st.1 4) (st.1 11) ∧ c_N a (st.1 0) ∧ c_M M st
abbrev z_0 : Nat → Nat := fun _ => 0
/-- the reference's -/
def m_S (R : Nat → Nat → Option Nat) : Prop := ∀ j, (1 ≤ j ∧ j ≤ 16 ∨ j = 18 ∨ j = 20) → R 0 j = some 0
def m_P (a : AS) (I33 I34 I35 : Nat → Nat → Int32) (J : Nat → Nat → Int64) : Prop :=
  ∀ i, i < 8 → I33 0 i = Int32.ofNat (a.1 0 i) ∧ I34 0 i = a.2.1 0 i ∧ I35 0 i = a.2.1 1 i ∧ J 0 i = a.2.2.1.1 i
def m_D (a : AS) (I : Nat → Nat → Int32) : Prop := ∀ i, i < 8 → ∀ d, d < 8 → I 0 (8 * i + d) = z_e (a.2.2.2 i d)
def m_O (a : AS) (I38 I39 I40 I41 : Nat → Nat → Int32) : Prop :=
  ∀ o, o < 20 → I38 0 o = Int32.ofNat (a.1 1 o) ∧ I39 0 o = Int32.ofNat (a.1 2 o) ∧ I40 0 o = Int32.ofNat (a.1 3 o) ∧ I41 0 o = a.2.1 2 o
def m_I (a : AS) (I42 I43 I44 : Nat → Nat → Int32) : Prop :=
  ∀ k, k < 6 → (I44 0 k = 0 ∨ I44 0 k = 1) ∧ (0 < z_o a 1 k + z_o a 2 k → I44 0 k = 1 ∧ I42 0 k = Int32.ofNat (a.1 4 k)) ∧ ∀ j, j < a.1 4 k → I43 0 (32 * k + j) = a.2.2.1.2 k j
def m_F (a : AS) (I45 I46 I47 I48 : Nat → Nat → Int32) : Prop :=
  ∀ f, f < 6 → (I45 0 f = 0 ∨ I45 0 f = 1) ∧ (a.2.1 3 f ≠ 0 ∨ 0 < z_o a 3 f → I45 0 f = 1) ∧ I46 0 f = a.2.1 3 f ∧ I47 0 f = Int32.ofNat (a.1 4 (8 + f)) ∧
    ∀ j, j < a.1 4 (8 + f) → I48 0 (64 * f + j) = a.2.2.1.2 (8 + f) j
def m_X (a : AS) (I44 I45 : Nat → Nat → Int32) : Prop :=
  (∀ k, k < 6 → I44 0 k = 1 → 0 < z_o a 1 k + z_o a 2 k) ∧ ∀ f, f < 6 → I45 0 f = 1 → a.2.1 3 f ≠ 0 ∨ 0 < z_o a 3 f
def m_C (a : AS) (I32 I49 I50 : Nat → Nat → Int32) (J : Nat → Nat → Int64) : Prop :=
  I32 0 17 = Int32.ofNat (a.1 4 20) ∧ (∀ j, j < a.1 4 20 → I49 0 j = a.2.2.1.2 20 j) ∧ J 0 19 = Int64.ofNat (a.1 5 0) ∧ ∀ j, j < a.1 4 21 → I50 0 j = a.2.2.1.2 21 j
def m_M (M st : XS) : Prop := ∀ q, q < 32 ∨ 64 ≤ q → st.1 q = M.1 q ∧ st.2.1 q = M.2.1 q ∧ st.2.2.1 q = M.2.2.1 q
/-- the reference's arrays hold the picture a, but for the marks of pipes and files that are gone -/
def RW (a : AS) (M st : XS) : Prop :=
  m_S (st.2.2.1 32) ∧ m_P a (st.1 33) (st.1 34) (st.1 35) (st.2.1 37) ∧ m_D a (st.1 36) ∧ m_O a (st.1 38) (st.1 39) (st.1 40) (st.1 41) ∧ m_I a (st.1 42) (st.1 43) (st.1 44) ∧
  m_F a (st.1 45) (st.1 46) (st.1 47) (st.1 48) ∧ m_C a (st.1 32) (st.1 49) (st.1 50) (st.2.1 32) ∧ m_M M st
def RM (a : AS) (M st : XS) : Prop := RW a M st ∧ m_X a (st.1 44) (st.1 45)
/-- who waits through the opening o, to read (r) or to write n bytes: must it wait? -/
def z_w (a : AS) (o : Nat) (r : Bool) (n : Int32) : Bool :=
  decide (n ≠ 0 ∧ ((a.1 1 o = 4 ∧ r = true ∧ a.1 4 20 = 0) ∨ (a.1 1 o = 1 ∧ r = true ∧ a.1 4 (a.1 2 o) = 0 ∧ 0 < z_o a 2 (a.1 2 o)) ∨
    (a.1 1 o = 2 ∧ r = false ∧ 0 < z_o a 1 (a.1 2 o) ∧ 32 < a.1 4 (a.1 2 o) + n.toNatClampNeg)))
/-- through which opening a process waits -/
def z_t (a : AS) (i : Nat) : Nat := (a.2.2.2 i (a.2.1 0 i).toNatClampNeg).getD 0
def z_mw (a : AS) (i : Nat) : Bool := z_w a (z_t a i) (decide (a.1 0 i = 2)) (a.2.1 1 i)
/-- what always holds of openings (e: holders ahead of their descriptors) -/
def W_O (e : Nat → Nat) (a : AS) : Prop := ∀ o, o < 20 → (0 < a.1 1 o ↔ 0 < z_h a o + e o) ∧ a.1 1 o ≤ 4 ∧ (a.1 1 o = 1 ∨ a.1 1 o = 2 → a.1 2 o < 6 ∧ a.2.1 2 o = Int32.ofNat (a.1 1 o)) ∧
  (a.1 1 o = 3 → a.1 2 o < 6) ∧ (a.1 1 o = 4 → a.2.1 2 o = 3) ∧ (0 < a.1 1 o → a.1 1 o ≠ 3 → a.1 3 o = 0) ∧ a.1 3 o ≤ 64
def W_D (a : AS) : Prop := ∀ i, i < 8 → ∀ d, d < 8 → ∀ o, a.2.2.2 i d = some o → o < 20
def W_P (a : AS) : Prop := ∀ i, i < 8 → a.1 0 i ≤ 3 ∧ (a.1 0 i = 0 → ∀ d, d < 8 → a.2.2.2 i d = none) ∧
  (2 ≤ a.1 0 i → ∃ d o, d < 8 ∧ a.2.1 0 i = Int32.ofNat d ∧ a.2.2.2 i d = some o ∧ ∃ n, n ≤ 8 ∧ a.2.1 1 i = Int32.ofNat n)
def W_W (a : AS) : Prop := ∀ i, i < 8 → 2 ≤ a.1 0 i → z_mw a i = true
def W_L (N : Nat) (a : AS) : Prop := (∀ f, f < 6 → a.2.1 3 f = 0 ∨ 0 < a.2.1 3 f) ∧ (∀ k, k < 6 → a.1 4 k ≤ 32 ∧ (z_o a 1 k + z_o a 2 k = 0 → a.1 4 k = 0)) ∧
  (∀ f, f < 6 → a.1 4 (8 + f) ≤ 64) ∧ a.1 4 20 ≤ 40 ∧ a.1 4 21 = min (a.1 5 0) 60 ∧ a.1 5 0 ≤ N
/-- openings without holders go, and what was in a pipe that goes -/
def z_sk (e : Nat → Nat) (a : AS) : AS := (fun f i => if f = 1 then (if 0 < z_h a i + e i then a.1 1 i else 0) else a.1 f i, a.2)
def z_sl (a : AS) : AS := (fun f i => if f = 4 ∧ i < 6 ∧ z_o a 1 i + z_o a 2 i = 0 then 0 else a.1 f i, a.2)
def z_s (e : Nat → Nat) (a : AS) : AS := z_sl (z_sk e a)
/-- ready again -/
def z_rd (a : AS) (i : Nat) : AS := aI (aI (aN a 0 i 1) 0 i (-1)) 1 i 0
def z_k : Nat → Nat → AS → Nat × AS
  | 0, _, a => (0, a)
  | k + 1, i, a => if 2 ≤ a.1 0 i ∧ z_mw a i = false then ((z_k k (i + 1) (z_rd a i)).1 + 1, (z_k k (i + 1) (z_rd a i)).2) else z_k k (i + 1) a
/-- who is ready -/
def z_r (a : AS) (p : Int32) : Option Nat := if x_in p 8 ∧ a.1 0 p.toNatClampNeg = 1 then some p.toNatClampNeg else none
/-- what a descriptor is of -/
def z_d (a : AS) (i : Nat) (d : Int32) : Option Nat := if x_in d 8 then a.2.2.2 i d.toNatClampNeg else none
