def RX0 : String := "DeafArray$Cutter"
def TX0 : u_T := fun k => match k with
  | 0 => ("DeafArray$Cutter", "cuts", "[LDeafArray$Num;", true)
  | 1 => ("DeafArray$Cutter", "deafGains", "[LDeafArray$Num;", true)
  | 2 => ("DeafArray$Cutter", "probe", "LDeafArray$Num;", true)
  | 3 => ("DeafArray$Cutter", "sumX", "J", false)
  | 4 => ("DeafArray$Cutter", "sumY", "J", false)
  | 5 => ("DeafArray$Cutter", "stepElement", "I", false)
  | 6 => ("DeafArray$Cutter", "stepPart", "I", false)
  | 7 => ("DeafArray$Cutter", "stepSign", "I", false)
  | 8 => ("DeafArray$Cutter", "stepX", "J", false)
  | _ => ("DeafArray$Cutter", "stepY", "J", false)
def tyX0 : Nat → FieldType := fun k => match k with
  | 0 => .array (.object "DeafArray$Num")
  | 1 => .array (.object "DeafArray$Num")
  | 2 => .object "DeafArray$Num"
  | 3 => .long
  | 4 => .long
  | 5 => .int
  | 6 => .int
  | 7 => .int
  | 8 => .long
  | _ => .long
theorem nmX0 : ∀ a, a < 10 → ∀ b, b < 10 → a ≠ b → (TX0 a).2.1 ≠ (TX0 b).2.1 := by decide +kernel
theorem tyX0_ok : ∀ k, k < 10 → parseFieldDescriptor (TX0 k).2.2.1 = some (tyX0 k) := by decide +kernel
def RX1 : String := "DeafArray$Greatest"
def TX1 : u_T := fun k => match k with
  | 0 => ("DeafArray$Greatest", "found", "I", false)
  | 1 => ("DeafArray$Greatest", "x", "J", false)
  | _ => ("DeafArray$Greatest", "y", "J", false)
def tyX1 : Nat → FieldType := fun k => match k with
  | 0 => .int
  | 1 => .long
  | _ => .long
theorem nmX1 : ∀ a, a < 3 → ∀ b, b < 3 → a ≠ b → (TX1 a).2.1 ≠ (TX1 b).2.1 := by decide +kernel
theorem tyX1_ok : ∀ k, k < 3 → parseFieldDescriptor (TX1 k).2.2.1 = some (tyX1 k) := by decide +kernel
def RX2 : String := "DeafArray$Least"
def TX2 : u_T := fun k => match k with
  | 0 => ("DeafArray$Least", "found", "I", false)
  | 1 => ("DeafArray$Least", "x", "J", false)
  | 2 => ("DeafArray$Least", "y", "J", false)
  | _ => ("DeafArray$Least", "lower", "J", false)
def tyX2 : Nat → FieldType := fun k => match k with
  | 0 => .int
  | 1 => .long
  | 2 => .long
  | _ => .long
theorem nmX2 : ∀ a, a < 4 → ∀ b, b < 4 → a ≠ b → (TX2 a).2.1 ≠ (TX2 b).2.1 := by decide +kernel
theorem tyX2_ok : ∀ k, k < 4 → parseFieldDescriptor (TX2 k).2.2.1 = some (tyX2 k) := by decide +kernel
def RX3 : String := "DeafArray$Num"
def TX3 : u_T := fun k => match k with
  | 0 => ("DeafArray$Num", "a", "J", false)
  | 1 => ("DeafArray$Num", "b", "J", false)
  | 2 => ("DeafArray$Num", "c", "J", false)
  | _ => ("DeafArray$Num", "d", "J", false)
def tyX3 : Nat → FieldType := fun k => match k with
  | 0 => .long
  | 1 => .long
  | 2 => .long
  | _ => .long
theorem nmX3 : ∀ a, a < 4 → ∀ b, b < 4 → a ≠ b → (TX3 a).2.1 ≠ (TX3 b).2.1 := by decide +kernel
theorem tyX3_ok : ∀ k, k < 4 → parseFieldDescriptor (TX3 k).2.2.1 = some (tyX3 k) := by decide +kernel
def RX4 : String := "DeafArray$Out"
def TX4 : u_T := fun k => match k with
  | 0 => ("DeafArray$Out", "bytes", "[I", true)
  | _ => ("DeafArray$Out", "size", "I", false)
def tyX4 : Nat → FieldType := fun k => match k with
  | 0 => .array .int
  | _ => .int
theorem nmX4 : ∀ a, a < 2 → ∀ b, b < 2 → a ≠ b → (TX4 a).2.1 ≠ (TX4 b).2.1 := by decide +kernel
theorem tyX4_ok : ∀ k, k < 2 → parseFieldDescriptor (TX4 k).2.2.1 = some (tyX4 k) := by decide +kernel
def RX5 : String := "DeafArray$Plan"
def TX5 : u_T := fun k => match k with
  | 0 => ("DeafArray$Plan", "positions", "[I", true)
  | 1 => ("DeafArray$Plan", "deafs", "[I", true)
  | 2 => ("DeafArray$Plan", "size", "I", false)
  | 3 => ("DeafArray$Plan", "broken", "I", false)
  | 4 => ("DeafArray$Plan", "look", "I", false)
  | 5 => ("DeafArray$Plan", "deafCount", "I", false)
  | 6 => ("DeafArray$Plan", "steps", "I", false)
  | _ => ("DeafArray$Plan", "lines", "I", false)
def tyX5 : Nat → FieldType := fun k => match k with
  | 0 => .array .int
  | 1 => .array .int
  | 2 => .int
  | 3 => .int
  | 4 => .int
  | 5 => .int
  | 6 => .int
  | _ => .int
theorem nmX5 : ∀ a, a < 8 → ∀ b, b < 8 → a ≠ b → (TX5 a).2.1 ≠ (TX5 b).2.1 := by decide +kernel
theorem tyX5_ok : ∀ k, k < 8 → parseFieldDescriptor (TX5 k).2.2.1 = some (tyX5 k) := by decide +kernel
def RX6 : String := "DeafArray$Reader"
def TX6 : u_T := fun k => match k with
  | 0 => ("DeafArray$Reader", "tape", "[I", true)
  | 1 => ("DeafArray$Reader", "draft", "LDeafArray$Plan;", true)
  | 2 => ("DeafArray$Reader", "size", "I", false)
  | 3 => ("DeafArray$Reader", "at", "I", false)
  | 4 => ("DeafArray$Reader", "start", "I", false)
  | 5 => ("DeafArray$Reader", "kind", "I", false)
  | 6 => ("DeafArray$Reader", "number", "I", false)
  | 7 => ("DeafArray$Reader", "fault", "I", false)
  | _ => ("DeafArray$Reader", "place", "I", false)
def tyX6 : Nat → FieldType := fun k => match k with
  | 0 => .array .int
  | 1 => .object "DeafArray$Plan"
  | 2 => .int
  | 3 => .int
  | 4 => .int
  | 5 => .int
  | 6 => .int
  | 7 => .int
  | _ => .int
theorem nmX6 : ∀ a, a < 9 → ∀ b, b < 9 → a ≠ b → (TX6 a).2.1 ≠ (TX6 b).2.1 := by decide +kernel
theorem tyX6_ok : ∀ k, k < 9 → parseFieldDescriptor (TX6 k).2.2.1 = some (tyX6 k) := by decide +kernel
def RX7 : String := "DeafArray$Solver"
def TX7 : u_T := fun k => match k with
  | 0 => ("DeafArray$Solver", "plan", "LDeafArray$Plan;", true)
  | 1 => ("DeafArray$Solver", "wished", "[I", true)
  | 2 => ("DeafArray$Solver", "lost", "[Z", true)
  | 3 => ("DeafArray$Solver", "form", "[LDeafArray$Num;", true)
  | 4 => ("DeafArray$Solver", "shares", "[LDeafArray$Num;", true)
  | 5 => ("DeafArray$Solver", "weights", "[LDeafArray$Num;", true)
  | 6 => ("DeafArray$Solver", "gains", "[LDeafArray$Num;", true)
  | 7 => ("DeafArray$Solver", "powerX", "[J", true)
  | 8 => ("DeafArray$Solver", "powerY", "[J", true)
  | 9 => ("DeafArray$Solver", "left", "LDeafArray$Num;", true)
  | 10 => ("DeafArray$Solver", "right", "LDeafArray$Num;", true)
  | 11 => ("DeafArray$Solver", "wishes", "I", false)
  | 12 => ("DeafArray$Solver", "rank", "I", false)
  | 13 => ("DeafArray$Solver", "holds", "Z", false)
  | 14 => ("DeafArray$Solver", "roomX", "J", false)
  | 15 => ("DeafArray$Solver", "roomY", "J", false)
  | _ => ("DeafArray$Solver", "lower", "J", false)
def tyX7 : Nat → FieldType := fun k => match k with
  | 0 => .object "DeafArray$Plan"
  | 1 => .array .int
  | 2 => .array .boolean
  | 3 => .array (.object "DeafArray$Num")
  | 4 => .array (.object "DeafArray$Num")
  | 5 => .array (.object "DeafArray$Num")
  | 6 => .array (.object "DeafArray$Num")
  | 7 => .array .long
  | 8 => .array .long
  | 9 => .object "DeafArray$Num"
  | 10 => .object "DeafArray$Num"
  | 11 => .int
  | 12 => .int
  | 13 => .boolean
  | 14 => .long
  | 15 => .long
  | _ => .long
theorem nmX7 : ∀ a, a < 17 → ∀ b, b < 17 → a ≠ b → (TX7 a).2.1 ≠ (TX7 b).2.1 := by decide +kernel
theorem tyX7_ok : ∀ k, k < 17 → parseFieldDescriptor (TX7 k).2.2.1 = some (tyX7 k) := by decide +kernel
def RX8 : String := "DeafArray"
def TX8 : u_T := fun k => match k with
  | 0 => ("DeafArray", "reader", "LDeafArray$Reader;", true)
  | 1 => ("DeafArray", "now", "LDeafArray$Solver;", true)
  | 2 => ("DeafArray", "trial", "LDeafArray$Solver;", true)
  | 3 => ("DeafArray", "cutter", "LDeafArray$Cutter;", true)
  | 4 => ("DeafArray", "least", "LDeafArray$Least;", true)
  | 5 => ("DeafArray", "greatest", "LDeafArray$Greatest;", true)
  | 6 => ("DeafArray", "out", "LDeafArray$Out;", true)
  | 7 => ("DeafArray", "probe", "LDeafArray$Num;", true)
  | 8 => ("DeafArray", "parts", "[J", true)
  | _ => ("DeafArray", "stale", "Z", false)
def tyX8 : Nat → FieldType := fun k => match k with
  | 0 => .object "DeafArray$Reader"
  | 1 => .object "DeafArray$Solver"
  | 2 => .object "DeafArray$Solver"
  | 3 => .object "DeafArray$Cutter"
  | 4 => .object "DeafArray$Least"
  | 5 => .object "DeafArray$Greatest"
  | 6 => .object "DeafArray$Out"
  | 7 => .object "DeafArray$Num"
  | 8 => .array .long
  | _ => .boolean
theorem nmX8 : ∀ a, a < 10 → ∀ b, b < 10 → a ≠ b → (TX8 a).2.1 ≠ (TX8 b).2.1 := by decide +kernel
theorem tyX8_ok : ∀ k, k < 10 → parseFieldDescriptor (TX8 k).2.2.1 = some (tyX8 k) := by decide +kernel
def RX9 : String := "DeafArrayModel"
def TX9 : u_T := fun k => match k with
  | 0 => ("DeafArrayModel", "thrown", "I", false)
  | 1 => ("DeafArrayModel", "number", "[J", true)
  | 2 => ("DeafArrayModel", "seven", "[J", true)
  | 3 => ("DeafArrayModel", "powerX", "J", false)
  | 4 => ("DeafArrayModel", "powerY", "J", false)
  | 5 => ("DeafArrayModel", "world", "[I", true)
  | 6 => ("DeafArrayModel", "fresh", "[I", true)
  | 7 => ("DeafArrayModel", "position", "[I", true)
  | 8 => ("DeafArrayModel", "positions", "I", false)
  | 9 => ("DeafArrayModel", "wished", "[I", true)
  | 10 => ("DeafArrayModel", "wishes", "I", false)
  | 11 => ("DeafArrayModel", "hasLook", "Z", false)
  | 12 => ("DeafArrayModel", "isLost", "[Z", true)
  | 13 => ("DeafArrayModel", "free", "[I", true)
  | 14 => ("DeafArrayModel", "rankFound", "I", false)
  | 15 => ("DeafArrayModel", "isSolved", "Z", false)
  | 16 => ("DeafArrayModel", "lower", "J", false)
  | 17 => ("DeafArrayModel", "totalX", "J", false)
  | 18 => ("DeafArrayModel", "totalY", "J", false)
  | 19 => ("DeafArrayModel", "weightAt", "[I", true)
  | 20 => ("DeafArrayModel", "tape", "[B", true)
  | 21 => ("DeafArrayModel", "taped", "I", false)
  | 22 => ("DeafArrayModel", "five", "[I", true)
  | 23 => ("DeafArrayModel", "size", "I", false)
  | 24 => ("DeafArrayModel", "at", "I", false)
  | 25 => ("DeafArrayModel", "from", "I", false)
  | 26 => ("DeafArrayModel", "token", "I", false)
  | 27 => ("DeafArrayModel", "value", "I", false)
  | 28 => ("DeafArrayModel", "faultKind", "I", false)
  | 29 => ("DeafArrayModel", "faultPlace", "I", false)
  | 30 => ("DeafArrayModel", "allX", "[J", true)
  | 31 => ("DeafArrayModel", "allY", "[J", true)
  | 32 => ("DeafArrayModel", "deafX", "J", false)
  | 33 => ("DeafArrayModel", "deafY", "J", false)
  | 34 => ("DeafArrayModel", "leastX", "J", false)
  | 35 => ("DeafArrayModel", "leastY", "J", false)
  | 36 => ("DeafArrayModel", "leastLower", "J", false)
  | 37 => ("DeafArrayModel", "out", "[B", true)
  | _ => ("DeafArrayModel", "outMany", "I", false)
def tyX9 : Nat → FieldType := fun k => match k with
  | 0 => .int
  | 1 => .array .long
  | 2 => .array .long
  | 3 => .long
  | 4 => .long
  | 5 => .array .int
  | 6 => .array .int
  | 7 => .array .int
  | 8 => .int
  | 9 => .array .int
  | 10 => .int
  | 11 => .boolean
  | 12 => .array .boolean
  | 13 => .array .int
  | 14 => .int
  | 15 => .boolean
  | 16 => .long
  | 17 => .long
  | 18 => .long
  | 19 => .array .int
  | 20 => .array .byte
  | 21 => .int
  | 22 => .array .int
  | 23 => .int
  | 24 => .int
  | 25 => .int
  | 26 => .int
  | 27 => .int
  | 28 => .int
  | 29 => .int
  | 30 => .array .long
  | 31 => .array .long
  | 32 => .long
  | 33 => .long
  | 34 => .long
  | 35 => .long
  | 36 => .long
  | 37 => .array .byte
  | _ => .int
theorem nmX9 : ∀ a, a < 39 → ∀ b, b < 39 → a ≠ b → (TX9 a).2.1 ≠ (TX9 b).2.1 := by decide +kernel
theorem tyX9_ok : ∀ k, k < 39 → parseFieldDescriptor (TX9 k).2.2.1 = some (tyX9 k) := by decide +kernel
def RL : String := "DeafArrayLaw"
abbrev mm_cls : List vw_C := [(RX0, TX0, 10), (RX1, TX1, 3), (RX2, TX2, 4), (RX3, TX3, 4), (RX4, TX4, 2), (RX5, TX5, 8), (RX6, TX6, 9), (RX7, TX7, 17), (RX8, TX8, 10), (RX9, TX9, 39)]
/-- the classes by number: 0 to 9 have objects -/
def mm_cn (o : Nat) : String := match o with
  | 0 => RX0
  | 1 => RX1
  | 2 => RX2
  | 3 => RX3
  | 4 => RX4
  | 5 => RX5
  | 6 => RX6
  | 7 => RX7
  | 8 => RX8
  | 9 => RX9
  | 10 => RL
  | 11 => "java/lang/Math"
  | 12 => "java/lang/Integer"
  | _ => "java/lang/String"
def mm_Tc (ci : Nat) : u_T := match ci with
  | 0 => TX0
  | 1 => TX1
  | 2 => TX2
  | 3 => TX3
  | 4 => TX4
  | 5 => TX5
  | 6 => TX6
  | 7 => TX7
  | 8 => TX8
  | _ => TX9
def mm_ty (ci k : Nat) : FieldType := match ci with
  | 0 => tyX0 k
  | 1 => tyX1 k
  | 2 => tyX2 k
  | 3 => tyX3 k
  | 4 => tyX4 k
  | 5 => tyX5 k
  | 6 => tyX6 k
  | 7 => tyX7 k
  | 8 => tyX8 k
  | _ => tyX9 k
/-! THE SMALL MACHINE: cells by number; whole numbers and longs by place; references as data -/
abbrev mm_C : Type := Nat × Nat × List (Option Nat)
abbrev mm_H : Type := List mm_C × (Nat → Nat → Int32) × (Nat → Nat → Int64)
abbrev mm_E : Type := Nat × Instr × Nat × Nat × List Nat
abbrev mm_L : Type := List (Option Value)
abbrev mm_R : Type := Option (Option Nat × mm_L × List Value × mm_H)
def mm_rv (f : Nat → Nat) (v : Value) : Value := match v with
  | .ref a => .ref (f a)
  | v => v
def mm_fv (f : Nat → Nat) (ty : FieldType) (i : Int32) (j : Int64) (r : Option Nat) : Value := match ty with
  | .long => .long j
  | .object _ => va_rf (r.map f)
  | .array _ => va_rf (r.map f)
  | _ => .int i
def mm_uI (I : Nat → Nat → Int32) (a k : Nat) (x : Int32) : Nat → Nat → Int32 := fun y => if y = a then upd (I a) k x else I y
def mm_uJ (J : Nat → Nat → Int64) (a k : Nat) (x : Int64) : Nat → Nat → Int64 := fun y => if y = a then vp_updL (J a) k x else J y
def mm_get (L : mm_L) (i : Nat) : Option Value := (L[i]?).join
def mm_clr (L : mm_L) (i : Nat) : mm_L := match i with
  | 0 => L
  | j + 1 => match L[j]? with
    | some (some (.long _)) => L.set j none
    | _ => L
def mm_pad (L : mm_L) (n : Nat) : mm_L := L ++ List.replicate (n - L.length) none
def mm_put (L : mm_L) (i : Nat) (v : Value) : mm_L := match v with
  | .long _ => ((mm_pad (mm_clr L i) (i + 2)).set i (some v)).set (i + 1) none
  | _ => (mm_pad (mm_clr L i) (i + 1)).set i (some v)
def mm_tag (v : Value) : Nat := match v with
  | .int _ => 0
  | .long _ => 1
  | .ref _ => 2
  | _ => 3
def mm_i1 (f : Int32 → Value) (L : mm_L) (st : List Value) (h : mm_H) : mm_R := match st with
  | .int x :: r => some (none, L, f x :: r, h)
  | _ => none
def mm_i2 (f : Int32 → Int32 → Value) (L : mm_L) (st : List Value) (h : mm_H) : mm_R := match st with
  | .int y :: .int x :: r => some (none, L, f x y :: r, h)
  | _ => none
def mm_i2d (f : Int32 → Int32 → Value) (L : mm_L) (st : List Value) (h : mm_H) : mm_R := match st with
  | .int y :: .int x :: r => if y = 0 then none else some (none, L, f x y :: r, h)
  | _ => none
def mm_j1 (f : Int64 → Value) (L : mm_L) (st : List Value) (h : mm_H) : mm_R := match st with
  | .long x :: r => some (none, L, f x :: r, h)
  | _ => none
def mm_j2 (f : Int64 → Int64 → Value) (L : mm_L) (st : List Value) (h : mm_H) : mm_R := match st with
  | .long y :: .long x :: r => some (none, L, f x y :: r, h)
  | _ => none
def mm_j2d (f : Int64 → Int64 → Value) (L : mm_L) (st : List Value) (h : mm_H) : mm_R := match st with
  | .long y :: .long x :: r => if y = 0 then none else some (none, L, f x y :: r, h)
  | _ => none
def mm_ld (t i : Nat) (L : mm_L) (st : List Value) (h : mm_H) : mm_R := match mm_get L i with
  | some v => if mm_tag v = t then some (none, L, v :: st, h) else none
  | none => none
def mm_sv (t i : Nat) (L : mm_L) (st : List Value) (h : mm_H) : mm_R := match st with
  | v :: r => if mm_tag v = t then some (none, mm_put L i v, r, h) else none
  | _ => none
def mm_cnd (c : ClassFile.Cond) (x y : Int32) : Bool := match c with
  | .eq => decide (x = y)
  | .ne => decide (¬ x = y)
  | .lt => decide (x < y)
  | .ge => decide (y ≤ x)
  | .gt => decide (y < x)
  | .le => decide (x ≤ y)
def mm_b1 (c : ClassFile.Cond) (L : mm_L) (st : List Value) (h : mm_H) : mm_R := match st with
  | .int x :: r => some (if mm_cnd c x 0 = true then some 0 else none, L, r, h)
  | _ => none
def mm_b2 (c : ClassFile.Cond) (L : mm_L) (st : List Value) (h : mm_H) : mm_R := match st with
  | .int y :: .int x :: r => some (if mm_cnd c x y = true then some 0 else none, L, r, h)
  | _ => none
def mm_gf (ci k : Nat) (L : mm_L) (st : List Value) (h : mm_H) : mm_R := match st with
  | .ref a :: r => match h.1[a]? with
    | some c => if c.1 = ci ∧ k < c.2.1 then some (none, L, mm_fv id (mm_ty ci k) (h.2.1 a k) (h.2.2 a k) (c.2.2[k]?.join) :: r, h) else none
    | none => none
  | _ => none
def mm_wr (ty : FieldType) (v : Value) (c : mm_C) (a k : Nat) (h : mm_H) : Option mm_H := match ty, v with
  | .int, .int x => some (h.1, mm_uI h.2.1 a k x, h.2.2)
  | .boolean, .int x => if x = 0 ∨ x = 1 then some (h.1, mm_uI h.2.1 a k x, h.2.2) else none
  | .long, .long x => some (h.1, h.2.1, mm_uJ h.2.2 a k x)
  | .object _, .ref b => if k < c.2.2.length then some (h.1.set a (c.1, c.2.1, c.2.2.set k (some b)), h.2.1, h.2.2) else none
  | .array _, .ref b => if k < c.2.2.length then some (h.1.set a (c.1, c.2.1, c.2.2.set k (some b)), h.2.1, h.2.2) else none
  | _, _ => none
def mm_pf (ci k : Nat) (L : mm_L) (st : List Value) (h : mm_H) : mm_R := match st with
  | v :: .ref a :: r => match h.1[a]? with
    | some c => if c.1 = ci ∧ k < c.2.1 then (match mm_wr (mm_ty ci k) v c a k h with
      | some h2 => some (none, L, r, h2)
      | none => none) else none
    | none => none
  | _ => none
def mm_kd (Lx : Nat) (h : mm_H) (a : Nat) : Option mm_C := if a < 1000 then h.1[a]? else if a = 1001 then some (100, Lx, []) else if a = 1002 then some (100, 24, []) else none
def mm_al (Lx : Nat) (ks : List Nat) (f : Nat → Nat → mm_C → Value) (L : mm_L) (st : List Value) (h : mm_H) : mm_R := match st with
  | .int j :: .ref a :: r => match mm_kd Lx h a with
    | some c => if c.1 ∈ ks ∧ 0 ≤ j ∧ j.toNatClampNeg < c.2.1 then some (none, L, f a j.toNatClampNeg c :: r, h) else none
    | none => none
  | _ => none
def mm_as (ks : List Nat) (g : Value → Nat → Nat → mm_C → Option mm_H) (L : mm_L) (st : List Value) (h : mm_H) : mm_R := match st with
  | v :: .int j :: .ref a :: r => match h.1[a]? with
    | some c => if c.1 ∈ ks ∧ 0 ≤ j ∧ j.toNatClampNeg < c.2.1 then (match g v a j.toNatClampNeg c with
      | some h2 => some (none, L, r, h2)
      | none => none) else none
    | none => none
  | _ => none
def mm_len (Lx : Nat) (L : mm_L) (st : List Value) (h : mm_H) : mm_R := match st with
  | .ref a :: r => match mm_kd Lx h a with
    | some c => if 100 ≤ c.1 ∧ c.1 ≤ 104 then some (none, L, .int (Int32.ofNat c.2.1) :: r, h) else none
    | none => none
  | _ => none
/-- a new cell: its numbers are nought -/
def mm_grow (h : mm_H) (c : mm_C) : mm_H := (h.1 ++ [c], (fun y => if y = h.1.length then (fun _ => 0) else h.2.1 y), (fun y => if y = h.1.length then (fun _ => 0) else h.2.2 y))
def mm_nw (ci N : Nat) (L : mm_L) (st : List Value) (h : mm_H) : mm_R := if h.1.length < 1000 then some (none, L, .ref h.1.length :: st, mm_grow h (ci, N, List.replicate N none)) else none
def mm_na (kd : Nat) (L : mm_L) (st : List Value) (h : mm_H) : mm_R := match st with
  | .int n :: r => if h.1.length < 1000 ∧ 0 ≤ n ∧ n.toNatClampNeg ≤ 100000 then some (none, L, .ref h.1.length :: r, mm_grow h (kd, n.toNatClampNeg, List.replicate n.toNatClampNeg none)) else none
  | _ => none
def mm_ak (t : ArrayType) : Nat := match t with
  | .int => 100
  | .long => 101
  | .byte => 102
  | _ => 103
def mm_sw (lo hi : Int) (L : mm_L) (st : List Value) (h : mm_H) : mm_R := match st with
  | .int x :: r => some (some (if x.toInt < lo ∨ hi < x.toInt then 0 else 2 * ((x.toInt - lo).toNat + 1)), L, r, h)
  | _ => none
/-- the texts that are constants -/
def mm_tx (q : Nat) : List Nat := match q with
  | 1003 => [97, 114, 114, 97, 121]
  | 1004 => [115, 116, 101, 112, 115]
  | 1005 => [101, 108, 101, 109, 101, 110, 116]
  | 1006 => [98, 114, 111, 107, 101, 110]
  | 1007 => [108, 111, 111, 107]
  | 1008 => [100, 101, 97, 102]
  | _ => []
def mm_str (ax : List Nat) (L : mm_L) (st : List Value) (h : mm_H) : mm_R := match ax with
  | [0, _] => (match st with
    | .ref a :: r => if r.length ≤ 4 ∧ 1003 ≤ a ∧ a ≤ 1008 then some (none, L, .int (nI (mm_tx a).length) :: r, h) else none
    | _ => none)
  | [1, _] => (match st with
    | .int j :: .ref a :: r => if r.length ≤ 4 ∧ 1003 ≤ a ∧ a ≤ 1008 ∧ 0 ≤ j ∧ j.toNatClampNeg < (mm_tx a).length then some (none, L, .int (nI ((mm_tx a).getD j.toNatClampNeg 0)) :: r, h) else none
    | _ => none)
  | _ => none
/-- one instruction that is no call and no return -/
def mm_stp (Lx : Nat) (ins : Instr) (ax : List Nat) (L : mm_L) (st : List Value) (h : mm_H) : mm_R :=
  match ins with
  | .iconst _ => some (none, L, .int (Int32.ofNat (ax.getD 0 0)) :: st, h)
  | .bipush _ => some (none, L, .int (Int32.ofNat (ax.getD 0 0)) :: st, h)
  | .sipush _ => some (none, L, .int (Int32.ofNat (ax.getD 0 0)) :: st, h)
  | .lconst _ => some (none, L, .long (Int64.ofNat (ax.getD 0 0)) :: st, h)
  | .ldc _ => if ax.getD 1 0 = 0 then some (none, L, .int (Int32.ofNat (ax.getD 0 0)) :: st, h) else some (none, L, .ref (ax.getD 0 0) :: st, h)
  | .ldc_w _ => if ax.getD 1 0 = 0 then some (none, L, .int (Int32.ofNat (ax.getD 0 0)) :: st, h) else some (none, L, .ref (ax.getD 0 0) :: st, h)
  | .ldc2_w _ => some (none, L, .long (Int64.ofNat (ax.getD 0 0)) :: st, h)
  | .iload_n k => mm_ld 0 k L st h
  | .iload i => mm_ld 0 i L st h
  | .lload_n k => mm_ld 1 k L st h
  | .lload i => mm_ld 1 i L st h
  | .aload_n k => mm_ld 2 k L st h
  | .aload i => mm_ld 2 i L st h
  | .istore_n k => mm_sv 0 k L st h
  | .istore i => mm_sv 0 i L st h
  | .lstore_n k => mm_sv 1 k L st h
  | .lstore i => mm_sv 1 i L st h
  | .astore_n k => mm_sv 2 k L st h
  | .astore i => mm_sv 2 i L st h
  | .iinc i n => (match mm_get L i with
    | some (.int x) => some (none, mm_put L i (.int (x + Int32.ofInt n)), st, h)
    | _ => none)
  | .iadd => mm_i2 (fun x y => .int (x + y)) L st h
  | .isub => mm_i2 (fun x y => .int (x - y)) L st h
  | .imul => mm_i2 (fun x y => .int (x * y)) L st h
  | .iand => mm_i2 (fun x y => .int (x &&& y)) L st h
  | .ior => mm_i2 (fun x y => .int (x ||| y)) L st h
  | .ixor => mm_i2 (fun x y => .int (x ^^^ y)) L st h
  | .ishl => mm_i2 (fun x y => .int (x <<< (y &&& 31))) L st h
  | .ishr => mm_i2 (fun x y => .int (x >>> (y &&& 31))) L st h
  | .iushr => mm_i2 (fun x y => .int (x.toUInt32 >>> (y.toUInt32 &&& Int32.toUInt32 31)).toInt32) L st h
  | .idiv => mm_i2d (fun x y => .int (x / y)) L st h
  | .irem => mm_i2d (fun x y => .int (x - x / y * y)) L st h
  | .ineg => mm_i1 (fun x => .int (-x)) L st h
  | .i2l => mm_i1 (fun x => .long x.toInt64) L st h
  | .i2b => mm_i1 (fun x => .int x.toInt8.toInt32) L st h
  | .ladd => mm_j2 (fun x y => .long (x + y)) L st h
  | .lsub => mm_j2 (fun x y => .long (x - y)) L st h
  | .lmul => mm_j2 (fun x y => .long (x * y)) L st h
  | .lxor => mm_j2 (fun x y => .long (x ^^^ y)) L st h
  | .ldiv => mm_j2d (fun x y => .long (x / y)) L st h
  | .lrem => mm_j2d (fun x y => .long (x - x / y * y)) L st h
  | .lneg => mm_j1 (fun x => .long (-x)) L st h
  | .l2i => mm_j1 (fun x => .int x.toInt32) L st h
  | .lcmp => mm_j2 (fun x y => .int (lg_cmp x y)) L st h
  | .dup => (match st with
    | v :: r => if v.category = 1 then some (none, L, v :: v :: r, h) else none
    | _ => none)
  | .dup2 => (match st with
    | .long x :: r => some (none, L, .long x :: .long x :: r, h)
    | .int x :: .ref y :: r => some (none, L, .int x :: .ref y :: .int x :: .ref y :: r, h)
    | _ => none)
  | .pop => (match st with
    | v :: r => if v.category = 1 then some (none, L, r, h) else none
    | _ => none)
  | .goto _ => some (some 0, L, st, h)
  | .ifCond c _ => mm_b1 c L st h
  | .if_icmp c _ => mm_b2 c L st h
  | .tableswitch _ lo hi _ => mm_sw lo hi L st h
  | .getfield _ => mm_gf (ax.getD 0 0) (ax.getD 1 0) L st h
  | .putfield _ => mm_pf (ax.getD 0 0) (ax.getD 1 0) L st h
  | .getstatic _ => some (none, L, .ref 1002 :: st, h)
  | .iaload => mm_al Lx [100] (fun a j _ => .int (h.2.1 a j)) L st h
  | .baload => mm_al Lx [102, 103] (fun a j _ => .int (h.2.1 a j)) L st h
  | .laload => mm_al Lx [101] (fun a j _ => .long (h.2.2 a j)) L st h
  | .aaload => mm_al Lx [104] (fun _ j c => va_rf (c.2.2[j]?.join)) L st h
  | .iastore => mm_as [100] (fun v a j _ => match v with
    | .int x => some (h.1, mm_uI h.2.1 a j x, h.2.2)
    | _ => none) L st h
  | .bastore => mm_as [102, 103] (fun v a j c => match v with
    | .int x => some (h.1, mm_uI h.2.1 a j (if c.1 = 102 then x.toInt8.toInt32 else x &&& 1), h.2.2)
    | _ => none) L st h
  | .lastore => mm_as [101] (fun v a j _ => match v with
    | .long x => some (h.1, h.2.1, mm_uJ h.2.2 a j x)
    | _ => none) L st h
  | .aastore => mm_as [104] (fun v a j c => match v with
    | .ref b => (match h.1[b]? with
      | some d => if d.1 = 3 ∧ j < c.2.2.length then some (h.1.set a (c.1, c.2.1, c.2.2.set j (some b)), h.2.1, h.2.2) else none
      | none => none)
    | _ => none) L st h
  | .arraylength => mm_len Lx L st h
  | .new _ => mm_nw (ax.getD 0 0) (ax.getD 1 0) L st h
  | .newarray t => mm_na (mm_ak t) L st h
  | .anewarray _ => mm_na 104 L st h
  | .invokespecial _ => (match st with
    | [.ref _] => some (none, L, [], h)
    | _ => none)
  | .invokevirtual _ => mm_str ax L st h
  | _ => none
def mm_ar (vs : List Value) : mm_L := match vs with
  | [] => []
  | .long x :: r => some (.long x) :: none :: mm_ar r
  | v :: r => some v :: mm_ar r
/-- what comes back from a method -/
def mm_rt (rk : Nat) (st : List Value) (h : mm_H) : Option (Option Value × mm_H) := match rk, st with
  | 0, [] => some (none, h)
  | 1, [.int v] => some (some (.int v), h)
  | 2, [.int v] => some (some (.int (v &&& 1)), h)
  | 3, [.long v] => some (some (.long v), h)
  | 4, [.ref v] => some (some (.ref v), h)
  | _, _ => none
/-- may this call be made: enough on the stack, little below, whole numbers, longs and references alone, room for them, the receiver of its class (ci: its number and 1 more; 0: no question) -/
def mm_cok (n ci mx : Nat) (st : List Value) (h : mm_H) : Bool := decide (n ≤ st.length) && decide ((st.drop n).length ≤ 4) && (st.take n).all (fun v => decide (mm_tag v ≤ 2)) && decide ((mm_ar (st.take n).reverse).length ≤ mx) && (match ci with
  | 0 => true
  | ci + 1 => (match st[n - 1]? with
    | some (.ref a) => (match h.1[a]? with
      | some c => decide (c.1 = ci)
      | none => false)
    | _ => false))
/-- the machine: n bounds its steps; tag 0: an instruction, 1: a call (its method, its values, receiver), 2: a return -/
def mm_ex (cd : Nat → List mm_E) (Lx : Nat) : Nat → Nat → List mm_E → mm_L → List Value → mm_H → Option (Option Value × mm_H)
  | 0, _, _, _, _, _ => none
  | n + 1, k, is, L, st, h => match is with
    | [] => none
    | (_, ins, _, tg, ax) :: is2 => match tg with
      | 0 => (match mm_stp Lx ins ax L st h with
        | some (none, L2, st2, h2) => mm_ex cd Lx n k is2 L2 st2 h2
        | some (some q, L2, st2, h2) => mm_ex cd Lx n k ((cd k).drop (ax.getD q 0)) L2 st2 h2
        | none => none)
      | 1 => if mm_cok (ax.getD 1 0) (ax.getD 2 0) (ax.getD 3 0) st h = true then
          (match mm_ex cd Lx n (ax.getD 0 0) (cd (ax.getD 0 0)) (mm_ar (st.take (ax.getD 1 0)).reverse) [] h with
          | some (r, h2) => mm_ex cd Lx n k is2 L (r.toList ++ st.drop (ax.getD 1 0)) h2
          | none => none)
        else none
      | 2 => mm_rt (ax.getD 0 0) st h
      | _ => none
