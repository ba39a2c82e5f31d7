/-! THE BASE: words that the links and the decode rows are told in -/
abbrev ax_cl : List vw_C := [(RX0, TX0, 2), (RX1, TX1, 13), (RX2, TX2, 5), (RX3, TX3, 12), (RX4, TX4, 10), (RX5, TX5, 3), (RX6, TX6, 2), (RX7, TX7, 11), (RX8, TX8, 52)]
abbrev ax_M : Type := Nat → Nat → Int32
/-- a method: name, code, locals, what it returns -/
abbrev ax_Y : Type := MethodName × ByteArray × Nat × Option FieldType
/-- the words that stay: those that the kit carries, and those of nest mates -/
def ax_nw (w : Cond) : Bool := match w with
  | .fieldLinkNest .. => true
  | .methodLinkNest .. => true
  | _ => false
def ax_tg : List Cond := lw_tbl.filter goodWord
def ax_wt : List Cond := lw_tbl.filter (fun w => goodWord w || ax_nw w)
/-- a field that a class's code names: idx in the pool of own is field k of class number ci -/
def ax_fl (own : String) (idx ci k : Nat) : Prop := ∃ (C : String) (T : u_T) (N : Nat), ax_cl[ci]? = some (C, T, N) ∧ k < N ∧ (∀ w ∈ u_ws C T N, w ∈ ax_wt) ∧ (Cond.fieldLink own idx (T k).1 (T k).2.1 (T k).2.2.1 ∈ ax_wt ∨ ∃ host, Cond.fieldLinkNest own idx (T k).1 (T k).2.1 (T k).2.2.1 host ∈ ax_wt)
/-- of a field that isn't final: its type -/
def ax_fp (ci k : Nat) (ty : FieldType) (fin : Bool) : Prop := ∃ (C : String) (T : u_T) (N : Nat) (ty0 : Nat → FieldType), ax_cl[ci]? = some (C, T, N) ∧ (∀ k, k < N → parseFieldDescriptor (T k).2.2.1 = some (ty0 k)) ∧ (∀ a, a < N → ∀ b, b < N → a ≠ b → (T a).2.1 ≠ (T b).2.1) ∧ (T k).2.2.2 = fin ∧ parseFieldDescriptor (T k).2.2.1 = some ty ∧ (T k).1 = C
/-- a method whose code the tables hold -/
def ax_code (y : ax_Y) : Prop := Cond.code y.1 y.2.1 y.2.2.1 y.2.2.2 ∈ ax_wt ∧ Cond.initialized y.1.cls ∈ ax_wt ∧ plainName y.1.cls = true ∧ (y.1.cls ≠ "java/lang/invoke/MethodHandle" ∧ y.1.cls ≠ "java/lang/invoke/VarHandle") ∧ y.2.2.1 ≤ 21
/-- an instance method that a class's code names -/
def ax_mv (own : String) (idx : Nat) (y' : ax_Y) (n : Nat) : Prop := (Cond.methodLink own idx y'.1 ∈ ax_wt ∨ ∃ host, Cond.methodLinkNest own idx y'.1 host ∈ ax_wt) ∧ Cond.instanceMethod y'.1 ∈ ax_wt ∧ Cond.selects y'.1.cls y'.1 y'.1 ∈ ax_wt ∧ (parseMethodDescriptor y'.1.desc).map (fun d => d.parameters.length) = some n
def ax_ms (own : String) (idx : Nat) (y' : ax_Y) (n : Nat) : Prop := ((Cond.methodLink own idx y'.1 ∈ ax_wt) ∨ ∃ host, Cond.methodLinkNest own idx y'.1 host ∈ ax_wt) ∧ Cond.static y'.1 ∈ ax_wt ∧ (parseMethodDescriptor y'.1.desc).map (fun d => d.parameters.length) = some n
def ax_mi (own : String) (idx : Nat) (y' : ax_Y) (n : Nat) : Prop := ((Cond.methodLink own idx y'.1 ∈ ax_wt) ∨ ∃ host, Cond.methodLinkNest own idx y'.1 host ∈ ax_wt) ∧ Cond.instanceMethod y'.1 ∈ ax_wt ∧ y'.1.name = "<init>" ∧ y'.2.2.2 = none ∧ (parseMethodDescriptor y'.1.desc).map (fun d => d.parameters.length) = some n
def ax_dc (y : ax_Y) (pc : Nat) (i : Instr) (n pc1 : Nat) : Prop := decode y.2.1 pc = .ok (i, n) ∧ pc + n = pc1
def ax_dj (y : ax_Y) (pc : Nat) (i : Instr) (n pc1 : Nat) (off : Int) (tgt : Nat) : Prop := decode y.2.1 pc = .ok (i, n) ∧ pc + n = pc1 ∧ (pc : Int) + off = (tgt : Int)
