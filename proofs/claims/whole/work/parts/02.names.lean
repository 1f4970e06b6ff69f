/-! NAMES, by program (wip/gen): classes, fields, pools, the words that keep, the methods' names and decoded code -/
def x_tb : List Cond := lw_tbl.filter goodWord
def cn_0 : String := "DescriptorDesk"
def ft_0 : u_T := fun k => match k with
  | 0 => ("DescriptorDesk", "procs", "[LDescriptorDesk$Proc;", true)
  | 1 => ("DescriptorDesk", "openings", "[LDescriptorDesk$Opening;", true)
  | 2 => ("DescriptorDesk", "pipes", "[LDescriptorDesk$Pipe;", true)
  | 3 => ("DescriptorDesk", "files", "[LDescriptorDesk$StoredFile;", true)
  | 4 => ("DescriptorDesk", "typedBytes", "LDescriptorDesk$ByteRow;", true)
  | 5 => ("DescriptorDesk", "shownBytes", "LDescriptorDesk$ByteRow;", true)
  | _ => ("DescriptorDesk", "shownInAll", "I", false)
def cn_1 : String := "DescriptorDesk$Proc"
def ft_1 : u_T := fun k => match k with
  | 0 => ("DescriptorDesk$Proc", "descriptors", "[LDescriptorDesk$Opening;", true)
  | 1 => ("DescriptorDesk$Proc", "condition", "I", false)
  | 2 => ("DescriptorDesk$Proc", "waitsThrough", "I", false)
  | 3 => ("DescriptorDesk$Proc", "wants", "I", false)
  | _ => ("DescriptorDesk$Proc", "latest", "J", false)
def cn_2 : String := "DescriptorDesk$Opening"
def ft_2 : u_T := fun k => match k with
  | 0 => ("DescriptorDesk$Opening", "pipe", "LDescriptorDesk$Pipe;", false)
  | 1 => ("DescriptorDesk$Opening", "file", "LDescriptorDesk$StoredFile;", false)
  | 2 => ("DescriptorDesk$Opening", "position", "I", false)
  | 3 => ("DescriptorDesk$Opening", "rights", "I", false)
  | _ => ("DescriptorDesk$Opening", "holders", "I", false)
def cn_3 : String := "DescriptorDesk$Pipe"
def ft_3 : u_T := fun k => match k with
  | 0 => ("DescriptorDesk$Pipe", "bytes", "LDescriptorDesk$ByteRow;", true)
  | 1 => ("DescriptorDesk$Pipe", "readers", "I", false)
  | _ => ("DescriptorDesk$Pipe", "writers", "I", false)
def cn_4 : String := "DescriptorDesk$StoredFile"
def ft_4 : u_T := fun k => match k with
  | 0 => ("DescriptorDesk$StoredFile", "bytes", "[I", true)
  | 1 => ("DescriptorDesk$StoredFile", "length", "I", false)
  | 2 => ("DescriptorDesk$StoredFile", "name", "I", false)
  | _ => ("DescriptorDesk$StoredFile", "users", "I", false)
def cn_5 : String := "DescriptorDesk$ByteRow"
def ft_5 : u_T := fun k => match k with
  | 0 => ("DescriptorDesk$ByteRow", "places", "[I", true)
  | 1 => ("DescriptorDesk$ByteRow", "first", "I", false)
  | _ => ("DescriptorDesk$ByteRow", "size", "I", false)
def cn_6 : String := "DescriptorDeskModel"
def ft_6 : u_T := fun k => match k with
  | 0 => ("DescriptorDeskModel", "code", "I", false)
  | 1 => ("DescriptorDeskModel", "life", "[I", true)
  | 2 => ("DescriptorDeskModel", "through", "[I", true)
  | 3 => ("DescriptorDeskModel", "wanted", "[I", true)
  | 4 => ("DescriptorDeskModel", "descriptor", "[I", true)
  | 5 => ("DescriptorDeskModel", "given", "[J", true)
  | 6 => ("DescriptorDeskModel", "kind", "[I", true)
  | 7 => ("DescriptorDeskModel", "thing", "[I", true)
  | 8 => ("DescriptorDeskModel", "position", "[I", true)
  | 9 => ("DescriptorDeskModel", "right", "[I", true)
  | 10 => ("DescriptorDeskModel", "piped", "[I", true)
  | 11 => ("DescriptorDeskModel", "pipeBytes", "[I", true)
  | 12 => ("DescriptorDeskModel", "isPipe", "[Z", true)
  | 13 => ("DescriptorDeskModel", "isFile", "[Z", true)
  | 14 => ("DescriptorDeskModel", "name", "[I", true)
  | 15 => ("DescriptorDeskModel", "length", "[I", true)
  | 16 => ("DescriptorDeskModel", "fileBytes", "[I", true)
  | 17 => ("DescriptorDeskModel", "typed", "I", false)
  | 18 => ("DescriptorDeskModel", "typedBytes", "[I", true)
  | 19 => ("DescriptorDeskModel", "shown", "J", false)
  | _ => ("DescriptorDeskModel", "shownBytes", "[I", true)
abbrev xk_cl : List vw_C := [(cn_0, ft_0, 7), (cn_1, ft_1, 5), (cn_2, ft_2, 5), (cn_3, ft_3, 3), (cn_4, ft_4, 4), (cn_5, ft_5, 3), (cn_6, ft_6, 21)]
/-- the type of a field: by the class's number and the field's -/
def xk_ty : Nat → Nat → FieldType := fun c k => match c, k with
  | 0, 0 => .array (.object "DescriptorDesk$Proc")
  | 0, 1 => .array (.object "DescriptorDesk$Opening")
  | 0, 2 => .array (.object "DescriptorDesk$Pipe")
  | 0, 3 => .array (.object "DescriptorDesk$StoredFile")
  | 0, 4 => .object "DescriptorDesk$ByteRow"
  | 0, 5 => .object "DescriptorDesk$ByteRow"
  | 0, 6 => .int
  | 1, 0 => .array (.object "DescriptorDesk$Opening")
  | 1, 1 => .int
  | 1, 2 => .int
  | 1, 3 => .int
  | 1, 4 => .long
  | 2, 0 => .object "DescriptorDesk$Pipe"
  | 2, 1 => .object "DescriptorDesk$StoredFile"
  | 2, 2 => .int
  | 2, 3 => .int
  | 2, 4 => .int
  | 3, 0 => .object "DescriptorDesk$ByteRow"
  | 3, 1 => .int
  | 3, 2 => .int
  | 4, 0 => .array .int
  | 4, 1 => .int
  | 4, 2 => .int
  | 4, 3 => .int
  | 5, 0 => .array .int
  | 5, 1 => .int
  | 5, 2 => .int
  | 6, 0 => .int
  | 6, 1 => .array .int
  | 6, 2 => .array .int
  | 6, 3 => .array .int
  | 6, 4 => .array .int
  | 6, 5 => .array .long
  | 6, 6 => .array .int
  | 6, 7 => .array .int
  | 6, 8 => .array .int
  | 6, 9 => .array .int
  | 6, 10 => .array .int
  | 6, 11 => .array .int
  | 6, 12 => .array .boolean
  | 6, 13 => .array .boolean
  | 6, 14 => .array .int
  | 6, 15 => .array .int
  | 6, 16 => .array .int
  | 6, 17 => .int
  | 6, 18 => .array .int
  | 6, 19 => .long
  | 6, 20 => .array .int
  | _, _ => .int
/-- a pool's class by number; none: a pool of arrays -/
def xk_c : Nat → Option Nat := fun q => match q with
  | 0 => some 0
  | 1 => some 1
  | 2 => some 2
  | 3 => some 3
  | 4 => some 4
  | 5 => some 5
  | 32 => some 6
  | _ => none
/-- how many slots an object of the pool has -/
def xk_n : Nat → Nat := fun q => match q with
  | 0 => 7
  | 1 => 5
  | 2 => 5
  | 3 => 3
  | 4 => 4
  | 5 => 3
  | 32 => 21
  | 6 => 8
  | 7 => 20
  | 8 => 6
  | 9 => 6
  | 10 => 8
  | 11 => 64
  | 12 => 64
  | 33 => 8
  | 34 => 8
  | 35 => 8
  | 36 => 64
  | 37 => 8
  | 38 => 20
  | 39 => 20
  | 40 => 20
  | 41 => 20
  | 42 => 6
  | 43 => 192
  | 44 => 6
  | 45 => 6
  | 46 => 6
  | 47 => 6
  | 48 => 384
  | 49 => 40
  | 50 => 60
  | 64 => 1
  | _ => 0
/-- a slot's sort: 0 an int, 1 a long, 2 a reference -/
def xk_s : Nat → Nat → Nat := fun q => match q with
  | 0 => fun k => match k with
    | 0 => 2
    | 1 => 2
    | 2 => 2
    | 3 => 2
    | 4 => 2
    | 5 => 2
    | 6 => 0
    | _ => 0
  | 1 => fun k => match k with
    | 0 => 2
    | 1 => 0
    | 2 => 0
    | 3 => 0
    | 4 => 1
    | _ => 0
  | 2 => fun k => match k with
    | 0 => 2
    | 1 => 2
    | 2 => 0
    | 3 => 0
    | 4 => 0
    | _ => 0
  | 3 => fun k => match k with
    | 0 => 2
    | 1 => 0
    | 2 => 0
    | _ => 0
  | 4 => fun k => match k with
    | 0 => 2
    | 1 => 0
    | 2 => 0
    | 3 => 0
    | _ => 0
  | 5 => fun k => match k with
    | 0 => 2
    | 1 => 0
    | 2 => 0
    | _ => 0
  | 32 => fun k => match k with
    | 0 => 0
    | 1 => 2
    | 2 => 2
    | 3 => 2
    | 4 => 2
    | 5 => 2
    | 6 => 2
    | 7 => 2
    | 8 => 2
    | 9 => 2
    | 10 => 2
    | 11 => 2
    | 12 => 2
    | 13 => 2
    | 14 => 2
    | 15 => 2
    | 16 => 2
    | 17 => 0
    | 18 => 2
    | 19 => 1
    | 20 => 2
    | _ => 0
  | 6 => fun _ => 2
  | 7 => fun _ => 2
  | 8 => fun _ => 2
  | 9 => fun _ => 2
  | 10 => fun _ => 2
  | 11 => fun _ => 0
  | 12 => fun _ => 0
  | 33 => fun _ => 0
  | 34 => fun _ => 0
  | 35 => fun _ => 0
  | 36 => fun _ => 0
  | 37 => fun _ => 1
  | 38 => fun _ => 0
  | 39 => fun _ => 0
  | 40 => fun _ => 0
  | 41 => fun _ => 0
  | 42 => fun _ => 0
  | 43 => fun _ => 0
  | 44 => fun _ => 0
  | 45 => fun _ => 0
  | 46 => fun _ => 0
  | 47 => fun _ => 0
  | 48 => fun _ => 0
  | 49 => fun _ => 0
  | 50 => fun _ => 0
  | 64 => fun _ => 1
  | _ => fun _ => 0
/-- the pool to which a slot's reference leads -/
def xk_t : Nat → Nat → Nat := fun q => match q with
  | 0 => fun k => match k with
    | 0 => 6
    | 1 => 7
    | 2 => 8
    | 3 => 9
    | 4 => 5
    | 5 => 5
    | _ => 0
  | 1 => fun k => match k with
    | 0 => 10
    | _ => 0
  | 2 => fun k => match k with
    | 0 => 3
    | 1 => 4
    | _ => 0
  | 3 => fun k => match k with
    | 0 => 5
    | _ => 0
  | 4 => fun k => match k with
    | 0 => 11
    | _ => 0
  | 5 => fun k => match k with
    | 0 => 12
    | _ => 0
  | 32 => fun k => match k with
    | 1 => 33
    | 2 => 34
    | 3 => 35
    | 4 => 36
    | 5 => 37
    | 6 => 38
    | 7 => 39
    | 8 => 40
    | 9 => 41
    | 10 => 42
    | 11 => 43
    | 12 => 44
    | 13 => 45
    | 14 => 46
    | 15 => 47
    | 16 => 48
    | 18 => 49
    | 20 => 50
    | _ => 0
  | 6 => fun _ => 1
  | 7 => fun _ => 2
  | 8 => fun _ => 3
  | 9 => fun _ => 4
  | 10 => fun _ => 2
  | _ => fun _ => 0
/-- an array pool's component type -/
def xk_a : Nat → Option FieldType := fun q => match q with
  | 6 => some (.object "DescriptorDesk$Proc")
  | 7 => some (.object "DescriptorDesk$Opening")
  | 8 => some (.object "DescriptorDesk$Pipe")
  | 9 => some (.object "DescriptorDesk$StoredFile")
  | 10 => some (.object "DescriptorDesk$Opening")
  | 11 => some (.int)
  | 12 => some (.int)
  | 33 => some (.int)
  | 34 => some (.int)
  | 35 => some (.int)
  | 36 => some (.int)
  | 37 => some (.long)
  | 38 => some (.int)
  | 39 => some (.int)
  | 40 => some (.int)
  | 41 => some (.int)
  | 42 => some (.int)
  | 43 => some (.int)
  | 44 => some (.boolean)
  | 45 => some (.boolean)
  | 46 => some (.int)
  | 47 => some (.int)
  | 48 => some (.int)
  | 49 => some (.int)
  | 50 => some (.int)
  | 64 => some (.long)
  | _ => none
/-- the words on nest mates -/
def xk_nest : List Cond := [(Jvm.Cond.methodLinkNest "DescriptorDesk" (35 : Nat) ({ cls := "DescriptorDesk$ByteRow", name := "<init>", desc := "()V" } : Jvm.MethodName) "DescriptorDesk"), (Jvm.Cond.fieldLinkNest "DescriptorDesk" (169 : Nat) "DescriptorDesk$ByteRow" "size" "I" "DescriptorDesk"), (Jvm.Cond.methodLinkNest "DescriptorDesk" (47 : Nat) ({ cls := "DescriptorDesk$Proc", name := "<init>", desc := "()V" } : Jvm.MethodName) "DescriptorDesk"), (Jvm.Cond.fieldLinkNest "DescriptorDesk" (178 : Nat) "DescriptorDesk$Proc" "condition" "I" "DescriptorDesk"), (Jvm.Cond.fieldLinkNest "DescriptorDesk" (181 : Nat) "DescriptorDesk$Proc" "waitsThrough" "I" "DescriptorDesk"), (Jvm.Cond.fieldLinkNest "DescriptorDesk" (184 : Nat) "DescriptorDesk$Proc" "wants" "I" "DescriptorDesk"), (Jvm.Cond.fieldLinkNest "DescriptorDesk" (133 : Nat) "DescriptorDesk$Proc" "latest" "J" "DescriptorDesk"), (Jvm.Cond.methodLinkNest "DescriptorDesk" (48 : Nat) ({ cls := "DescriptorDesk$Opening", name := "<init>", desc := "()V" } : Jvm.MethodName) "DescriptorDesk"), (Jvm.Cond.fieldLinkNest "DescriptorDesk" (246 : Nat) "DescriptorDesk$Opening" "pipe" "LDescriptorDesk$Pipe;" "DescriptorDesk"), (Jvm.Cond.fieldLinkNest "DescriptorDesk" (158 : Nat) "DescriptorDesk$Opening" "file" "LDescriptorDesk$StoredFile;" "DescriptorDesk"), (Jvm.Cond.fieldLinkNest "DescriptorDesk" (162 : Nat) "DescriptorDesk$Opening" "position" "I" "DescriptorDesk"), (Jvm.Cond.fieldLinkNest "DescriptorDesk" (197 : Nat) "DescriptorDesk$Opening" "rights" "I" "DescriptorDesk"), (Jvm.Cond.fieldLinkNest "DescriptorDesk$Proc" (44 : Nat) "DescriptorDesk$Opening" "holders" "I" "DescriptorDesk"), (Jvm.Cond.fieldLinkNest "DescriptorDesk" (191 : Nat) "DescriptorDesk$Opening" "holders" "I" "DescriptorDesk"), (Jvm.Cond.methodLinkNest "DescriptorDesk" (49 : Nat) ({ cls := "DescriptorDesk$Pipe", name := "<init>", desc := "()V" } : Jvm.MethodName) "DescriptorDesk"), (Jvm.Cond.methodLinkNest "DescriptorDesk$Pipe" (11 : Nat) ({ cls := "DescriptorDesk$ByteRow", name := "<init>", desc := "()V" } : Jvm.MethodName) "DescriptorDesk"), (Jvm.Cond.fieldLinkNest "DescriptorDesk" (250 : Nat) "DescriptorDesk$Pipe" "bytes" "LDescriptorDesk$ByteRow;" "DescriptorDesk"), (Jvm.Cond.fieldLinkNest "DescriptorDesk" (256 : Nat) "DescriptorDesk$Pipe" "readers" "I" "DescriptorDesk"), (Jvm.Cond.fieldLinkNest "DescriptorDesk" (253 : Nat) "DescriptorDesk$Pipe" "writers" "I" "DescriptorDesk"), (Jvm.Cond.methodLinkNest "DescriptorDesk" (50 : Nat) ({ cls := "DescriptorDesk$StoredFile", name := "<init>", desc := "()V" } : Jvm.MethodName) "DescriptorDesk"), (Jvm.Cond.fieldLinkNest "DescriptorDesk" (115 : Nat) "DescriptorDesk$StoredFile" "length" "I" "DescriptorDesk"), (Jvm.Cond.fieldLinkNest "DescriptorDesk" (112 : Nat) "DescriptorDesk$StoredFile" "name" "I" "DescriptorDesk"), (Jvm.Cond.fieldLinkNest "DescriptorDesk$Opening" (33 : Nat) "DescriptorDesk$StoredFile" "users" "I" "DescriptorDesk")]
theorem xk_in : ∀ c, c < 7 → ∀ w ∈ u_ws (xk_cl.getD c ("", ft_0, 0)).1 (xk_cl.getD c ("", ft_0, 0)).2.1 (xk_cl.getD c ("", ft_0, 0)).2.2, w ∈ x_tb := by decide +kernel
theorem xk_tyok : ∀ c, c < 7 → ∀ k, k < (xk_cl.getD c ("", ft_0, 0)).2.2 → parseFieldDescriptor ((xk_cl.getD c ("", ft_0, 0)).2.1 k).2.2.1 = some (xk_ty c k) := by decide +kernel
theorem xk_nm : ∀ c, c < 7 → ∀ a, a < (xk_cl.getD c ("", ft_0, 0)).2.2 → ∀ b, b < (xk_cl.getD c ("", ft_0, 0)).2.2 → a ≠ b → ((xk_cl.getD c ("", ft_0, 0)).2.1 a).2.1 ≠ ((xk_cl.getD c ("", ft_0, 0)).2.1 b).2.1 := by decide +kernel
theorem xk_nestok : ∀ w ∈ xk_nest, w ∈ lw_tbl := by decide +kernel
theorem xk_un : ∀ q, xk_c q = none → ∀ k, xk_s q k = xk_s q 0 ∧ xk_t q k = xk_t q 0 := by
  intro q h k
  unfold xk_c at h
  constructor
  · unfold xk_s; split <;> first | rfl | cases h
  · unfold xk_t; split <;> first | rfl | cases h
theorem xk_s_le : ∀ q k, xk_s q k ≤ 2 := by
  intro q k
  unfold xk_s; split <;> first | (show _ ≤ 2; dsimp only; split <;> decide) | (dsimp only; decide)
/-- the texts of the exceptions -/
def xk_str : List (String × Nat × String) := [("DescriptorDesk", 229, "the process is absent or waits"), ("DescriptorDesk", 82, "no such process"), ("DescriptorDesk", 231, "a name is 1 .. 9"), ("DescriptorDesk", 235, "there is no such way to open"), ("DescriptorDesk", 233, "n is not 0 .. 8"), ("DescriptorDesk", 153, "no such descriptor to copy to"), ("DescriptorDesk", 156, "from is not 0 .. 2"), ("DescriptorDesk", 167, "not a byte")]
def xk_over : List String := ["DescriptorDesk$Proc", "DescriptorDesk$Opening", "DescriptorDesk$Pipe", "DescriptorDesk$StoredFile"]
def xk_unc : List (String × String) := [("java/lang/IllegalStateException", "java/lang/IllegalArgumentException"), ("java/lang/IllegalArgumentException", "java/lang/IllegalStateException")]
def xk_dec : List MethodName := [({ cls := "java/lang/RuntimeException", name := "<init>", desc := "()V" } : Jvm.MethodName), ({ cls := "java/lang/RuntimeException", name := "<init>", desc := "(Ljava/lang/String;)V" } : Jvm.MethodName), ({ cls := "java/lang/Exception", name := "<init>", desc := "()V" } : Jvm.MethodName), ({ cls := "java/lang/Exception", name := "<init>", desc := "(Ljava/lang/String;)V" } : Jvm.MethodName), ({ cls := "java/lang/Throwable", name := "<init>", desc := "()V" } : Jvm.MethodName), ({ cls := "java/lang/Throwable", name := "<init>", desc := "(Ljava/lang/String;)V" } : Jvm.MethodName)]
/-- what a method is: its class, bytes, locals, return type, handlers, name -/
abbrev XM : Type := String × ByteArray × Nat × Option FieldType × List (Nat × Nat × Nat × Nat) × String
theorem xk_nestform : ∀ w ∈ xk_nest, (∃ a i b n d ho, w = .fieldLinkNest a i b n d ho) ∨ (∃ a i x ho, w = .methodLinkNest a i x ho) := by
  intro w hw
  simp only [xk_nest, List.mem_cons, List.not_mem_nil, or_false] at hw
  rcases hw with rfl | rfl | rfl | rfl | rfl | rfl | rfl | rfl | rfl | rfl | rfl | rfl | rfl | rfl | rfl | rfl | rfl | rfl | rfl | rfl | rfl | rfl | rfl <;> first | exact Or.inl ⟨_, _, _, _, _, _, rfl⟩ | exact Or.inr ⟨_, _, _, _, rfl⟩
