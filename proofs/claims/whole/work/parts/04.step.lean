/-! every instruction of the small machine is the machine's own -/
def mm_gw : List Cond := lw_tbl.filter goodWord
def mm_nest (w : Cond) : Bool := match w with
  | .fieldLinkNest _ _ _ _ _ _ => true
  | .methodLinkNest _ _ _ _ => true
  | _ => false
/-- the texts: by class, entry, text, number -/
def mm_strs : List (Nat × Nat × String × Nat) := [(6, 56, "array", 1003), (6, 62, "steps", 1004), (6, 73, "element", 1005), (6, 79, "broken", 1006), (6, 85, "look", 1007), (6, 90, "deaf", 1008), (9, 256, "array", 1003), (9, 262, "steps", 1004), (9, 264, "element", 1005), (9, 269, "broken", 1006), (9, 271, "look", 1007), (9, 277, "deaf", 1008)]
def mm_sl (h : mm_H) : Nat := (h.1.map (fun c => c.2.1)).sum
/-- what was there before: the script, the table of powers, the texts, what String asks -/
def mm_Old (B : Nat) (od : Nat → Nat) (Lx : Nat) (xs : Nat → Int32) (U : State) (H : Heap) : Prop :=
  va_X (od 1001) Lx xs U H ∧ od 1001 < B ∧ va_Z RX9 "POWERS" "[I" (.ref (od 1002)) (mm_A B) U H ∧ va_T .int (od 1002) 24 (fun j => .int (mm_pw j)) (mm_A B) U H ∧
  (∀ q ∈ mm_strs, vk_R (mm_cn q.1) q.2.1 q.2.2.1 (od q.2.2.2) U) ∧ (∃ adV : Nat → Nat, vk_S 6 [5, 5, 7, 6, 4, 4] [[97, 114, 114, 97, 121], [115, 116, 101, 112, 115], [101, 108, 101, 109, 101, 110, 116], [98, 114, 111, 107, 101, 110], [108, 111, 111, 107], [100, 101, 97, 102]] (fun i => od (1003 + i)) adV (mm_A B) U H) ∧
  va_Z "java/lang/String" "COMPACT_STRINGS" "Z" (.int 1) (mm_A B) U H ∧ va_Zq "jdk/internal/util/Preconditions" "SIOOBE_FORMATTER" "Ljava/util/function/BiFunction;" (mm_A B) U H
def mm_Ct (B : Nat) (od : Nat → Nat) (D : va_G) (dA : Nat → ClassId) (Lx : Nat) (xs : Nat → Int32) (args : Array Value) (s : State) : Prop :=
  (∀ w ∈ mm_gw, w.before args s = true) ∧ va_K D mm_cls (mm_tys dA) s ∧ (∀ w ∈ lw_tbl, mm_nest w = true → va_Nw w s) ∧ va_AO RX3 s ∧ mm_Old B od Lx xs s s.heap ∧ B ≤ s.heap.size ∧ Lx < 2 ^ 31
def mm_Si (B : Nat) (od : Nat → Nat) (D : va_G) (dA : Nat → ClassId) (Lx : Nat) (xs : Nat → Int32) (p : Program) (s : State) (m : MethodId) (args : Array Value) (c : Code) (cc : ByteArray) (nL : Nat) (own : String) : Prop :=
  p.tables.exec = Jvm.exec ∧ c.code = cc ∧ c.maxLocals = nL ∧ s.vm.findClass own = some m.cls ∧ mm_Ct B od D dA Lx xs args s
def mm_npc (j : Option Nat) (pc len : Nat) (ax : List Nat) : Nat := match j with
  | none => pc + len
  | some q => ax.getD (q + 1) 0
/-- a method: its name, its code, its locals, what it returns, the frames and the locals that it needs, its class, its values (its receiver aside), is it a constructor -/
abbrev mm_M : Type := MethodName × ByteArray × Nat × Option FieldType × Nat × Nat × Nat × Nat × Bool
/-- words of the tables, as rows of numbers -/
def mm_wdec (mt : Nat → mm_M) (r : List Nat) : Cond := match r with
  | [1, o, i, v] => .constant (mm_cn o) i (Int32.ofNat v)
  | [2, o, i, v] => .constantLong (mm_cn o) i (Int64.ofNat v)
  | [3, o, i, c, k] => .fieldLink (mm_cn o) i (mm_Tc c k).1 (mm_Tc c k).2.1 (mm_Tc c k).2.2.1
  | [4, o, i, c, k] => .fieldLinkNest (mm_cn o) i (mm_Tc c k).1 (mm_Tc c k).2.1 (mm_Tc c k).2.2.1 "DeafArray"
  | [5, o, i] => .fieldLink (mm_cn o) i RX9 "POWERS" "[I"
  | [6, o, i, c] => .classLink (mm_cn o) i (mm_cn c)
  | [7, c, n] => .instantiable (mm_cn c) n
  | [8, c] => .initialized (mm_cn c)
  | [9, 0] => .arrayClass .int
  | [9, 1] => .arrayClass .long
  | [9, 2] => .arrayClass .byte
  | [9, 3] => .arrayClass .boolean
  | [10, o, i] => .methodLink (mm_cn o) i objectInit
  | [11] => .instanceMethod objectInit
  | [12] => .code objectInit ⟨#[0xb1]⟩ 1 none
  | [13, o, i, k] => .methodLink (mm_cn o) i (mt k).1
  | [14, o, i, k] => .methodLinkNest (mm_cn o) i (mt k).1 "DeafArray"
  | [15, k] => .instanceMethod (mt k).1
  | [16, k] => .static (mt k).1
  | [17, k] => .selects (mt k).1.cls (mt k).1 (mt k).1
  | [18, k] => .code (mt k).1 (mt k).2.1 (mt k).2.2.1 (mt k).2.2.2.1
  | [19, o, i, 0] => .methodLink (mm_cn o) i ⟨"java/lang/String", "length", "()I"⟩
  | [19, o, i, 1] => .methodLink (mm_cn o) i ⟨"java/lang/String", "charAt", "(I)C"⟩
  | [0, i] => lw_tbl.getD i (.initialized "")
  | _ => .initialized ""
def mm_Nt (mt : Nat → mm_M) (nt : Nat → Option (List Nat)) : Prop := ∀ (i : Nat) (r : List Nat), nt i = some r → lw_tbl[i]? = some (mm_wdec mt r)
def mm_wd (nt : Nat → Option (List Nat)) (i : Nat) (r : List Nat) : Bool := decide (nt i = some r)
theorem mm_wd_ok {mt : Nat → mm_M} {nt : Nat → Option (List Nat)} {i : Nat} {r : List Nat} (hN : mm_Nt mt nt) (h : mm_wd nt i r = true) (hg : goodWord (mm_wdec mt r) = true) : mm_wdec mt r ∈ mm_gw := List.mem_filter.mpr ⟨List.mem_of_getElem? (hN i r (of_decide_eq_true h)), hg⟩
theorem mm_wn_ok {mt : Nat → mm_M} {nt : Nat → Option (List Nat)} {i : Nat} {r : List Nat} (hN : mm_Nt mt nt) (h : mm_wd nt i r = true) : mm_wdec mt r ∈ lw_tbl := List.mem_of_getElem? (hN i r (of_decide_eq_true h))
/-- the check of an entry that is no call and no return -/
def mm_chk (nt : Nat → Option (List Nat)) (o : Nat) (ini : Bool) (nL pc : Nat) (ins : Instr) (len : Nat) (ax : List Nat) : Bool :=
  match ins with
  | .iconst n => decide (len = 1) && decide (Int32.ofInt n = Int32.ofNat (ax.getD 0 0))
  | .bipush n => decide (len = 2) && decide ((Int8.ofInt n).toInt32 = Int32.ofNat (ax.getD 0 0))
  | .sipush n => decide (len = 3) && decide ((Int16.ofInt n).toInt32 = Int32.ofNat (ax.getD 0 0))
  | .lconst n => decide (len = 1) && decide (Int64.ofNat (n : Nat) = Int64.ofNat (ax.getD 0 0))
  | .ldc i => decide (len = 2) && (if ax.getD 1 0 = 0 then mm_wd nt (ax.getD 2 0) [1, o, i, ax.getD 0 0] else (match mm_strs[ax.getD 2 0]? with
    | some q => decide (q.1 = o) && decide (q.2.1 = i) && decide (q.2.2.2 = ax.getD 0 0)
    | none => false))
  | .ldc_w i => decide (len = 3) && (if ax.getD 1 0 = 0 then mm_wd nt (ax.getD 2 0) [1, o, i, ax.getD 0 0] else (match mm_strs[ax.getD 2 0]? with
    | some q => decide (q.1 = o) && decide (q.2.1 = i) && decide (q.2.2.2 = ax.getD 0 0)
    | none => false))
  | .ldc2_w i => decide (len = 3) && mm_wd nt (ax.getD 2 0) [2, o, i, ax.getD 0 0]
  | .iload_n _ => decide (len = 1)
  | .iload _ => decide (len = 2)
  | .lload_n _ => decide (len = 1)
  | .lload _ => decide (len = 2)
  | .aload_n _ => decide (len = 1)
  | .aload _ => decide (len = 2)
  | .istore_n k => decide (len = 1) && decide ((k : Nat) < nL)
  | .istore i => decide (len = 2) && decide (i < nL)
  | .lstore_n k => decide (len = 1) && decide ((k : Nat) + 1 < nL)
  | .lstore i => decide (len = 2) && decide (i + 1 < nL)
  | .astore_n k => decide (len = 1) && decide ((k : Nat) < nL)
  | .astore i => decide (len = 2) && decide (i < nL)
  | .iinc i _ => decide (len = 3) && decide (i < nL)
  | .goto off => decide (len = 3) && decide ((pc : Int) + off = ((ax.getD 1 0 : Nat) : Int))
  | .ifCond _ off => decide (len = 3) && decide ((pc : Int) + off = ((ax.getD 1 0 : Nat) : Int))
  | .if_icmp _ off => decide (len = 3) && decide ((pc : Int) + off = ((ax.getD 1 0 : Nat) : Int))
  | .tableswitch d lo hi offs => decide ((pc : Int) + d = ((ax.getD 1 0 : Nat) : Int)) && decide (hi - lo + 1 = (offs.size : Int)) && (List.range offs.size).all (fun i => (match offs[i]? with
    | some o => decide ((pc : Int) + o = ((ax.getD (2 * (i + 1) + 1) 0 : Nat) : Int))
    | none => false))
  | .getfield i => decide (len = 3) && (match mm_cls[ax.getD 0 0]? with
    | some (_, _, N) => decide (ax.getD 1 0 < N) && (if ax.getD 3 0 = 0 then mm_wd nt (ax.getD 2 0) [3, o, i, ax.getD 0 0, ax.getD 1 0] else mm_wd nt (ax.getD 2 0) [4, o, i, ax.getD 0 0, ax.getD 1 0])
    | none => false)
  | .putfield i => decide (len = 3) && (match mm_cls[ax.getD 0 0]? with
    | some (_, T, N) => decide (ax.getD 1 0 < N) && (if ax.getD 3 0 = 0 then mm_wd nt (ax.getD 2 0) [3, o, i, ax.getD 0 0, ax.getD 1 0] && (!(T (ax.getD 1 0)).2.2.2 || (ini && decide (ax.getD 0 0 = o))) else mm_wd nt (ax.getD 2 0) [4, o, i, ax.getD 0 0, ax.getD 1 0] && !(T (ax.getD 1 0)).2.2.2)
    | none => false)
  | .getstatic i => decide (len = 3) && mm_wd nt (ax.getD 0 0) [5, o, i]
  | .new i => decide (len = 3) && (match mm_cls[ax.getD 0 0]? with
    | some (_, _, N) => decide (ax.getD 1 0 = N) && mm_wd nt (ax.getD 2 0) [6, o, i, ax.getD 0 0] && mm_wd nt (ax.getD 3 0) [7, ax.getD 0 0, N] && mm_wd nt (ax.getD 4 0) [8, ax.getD 0 0]
    | none => false)
  | .newarray t => decide (len = 2) && ((decide (t = .int) && mm_wd nt (ax.getD 0 0) [9, 0]) || (decide (t = .long) && mm_wd nt (ax.getD 0 0) [9, 1]) || (decide (t = .byte) && mm_wd nt (ax.getD 0 0) [9, 2]) || (decide (t = .boolean) && mm_wd nt (ax.getD 0 0) [9, 3]))
  | .anewarray i => decide (len = 3) && mm_wd nt (ax.getD 0 0) [6, o, i, 3]
  | .invokespecial i => decide (len = 3) && mm_wd nt (ax.getD 0 0) [10, o, i] && mm_wd nt (ax.getD 1 0) [11] && mm_wd nt (ax.getD 2 0) [12]
  | .invokevirtual _ => false
  | _ => decide (len = 1)

section Inv
variable {L L2 : mm_L} {st st2 : List Value} {h h2 : mm_H} {j : Option Nat}
theorem mm_i1_inv {f : Int32 → Value} (he : mm_i1 f L st h = some (j, L2, st2, h2)) : ∃ x r, st = .int x :: r ∧ j = none ∧ L2 = L ∧ st2 = f x :: r ∧ h2 = h := by
  unfold mm_i1 at he
  split at he
  · cases he; exact ⟨_, _, rfl, rfl, rfl, rfl, rfl⟩
  · cases he
theorem mm_i2_inv {f : Int32 → Int32 → Value} (he : mm_i2 f L st h = some (j, L2, st2, h2)) : ∃ x y r, st = .int y :: .int x :: r ∧ j = none ∧ L2 = L ∧ st2 = f x y :: r ∧ h2 = h := by
  unfold mm_i2 at he
  split at he
  · cases he; exact ⟨_, _, _, rfl, rfl, rfl, rfl, rfl⟩
  · cases he
theorem mm_i2d_inv {f : Int32 → Int32 → Value} (he : mm_i2d f L st h = some (j, L2, st2, h2)) : ∃ x y r, st = .int y :: .int x :: r ∧ ¬ y = 0 ∧ j = none ∧ L2 = L ∧ st2 = f x y :: r ∧ h2 = h := by
  unfold mm_i2d at he
  split at he
  · split at he
    · cases he
    · cases he; exact ⟨_, _, _, rfl, by assumption, rfl, rfl, rfl, rfl⟩
  · cases he
theorem mm_j1_inv {f : Int64 → Value} (he : mm_j1 f L st h = some (j, L2, st2, h2)) : ∃ x r, st = .long x :: r ∧ j = none ∧ L2 = L ∧ st2 = f x :: r ∧ h2 = h := by
  unfold mm_j1 at he
  split at he
  · cases he; exact ⟨_, _, rfl, rfl, rfl, rfl, rfl⟩
  · cases he
theorem mm_j2_inv {f : Int64 → Int64 → Value} (he : mm_j2 f L st h = some (j, L2, st2, h2)) : ∃ x y r, st = .long y :: .long x :: r ∧ j = none ∧ L2 = L ∧ st2 = f x y :: r ∧ h2 = h := by
  unfold mm_j2 at he
  split at he
  · cases he; exact ⟨_, _, _, rfl, rfl, rfl, rfl, rfl⟩
  · cases he
theorem mm_j2d_inv {f : Int64 → Int64 → Value} (he : mm_j2d f L st h = some (j, L2, st2, h2)) : ∃ x y r, st = .long y :: .long x :: r ∧ ¬ y = 0 ∧ j = none ∧ L2 = L ∧ st2 = f x y :: r ∧ h2 = h := by
  unfold mm_j2d at he
  split at he
  · split at he
    · cases he
    · cases he; exact ⟨_, _, _, rfl, by assumption, rfl, rfl, rfl, rfl⟩
  · cases he
theorem mm_ld_inv {t i : Nat} (he : mm_ld t i L st h = some (j, L2, st2, h2)) : ∃ v, mm_get L i = some v ∧ mm_tag v = t ∧ j = none ∧ L2 = L ∧ st2 = v :: st ∧ h2 = h := by
  unfold mm_ld at he
  split at he
  · split at he
    · cases he; exact ⟨_, by assumption, by assumption, rfl, rfl, rfl, rfl⟩
    · cases he
  · cases he
theorem mm_sv_inv {t i : Nat} (he : mm_sv t i L st h = some (j, L2, st2, h2)) : ∃ v, st = v :: st2 ∧ mm_tag v = t ∧ j = none ∧ L2 = mm_put L i v ∧ h2 = h := by
  unfold mm_sv at he
  split at he
  · split at he
    · cases he; exact ⟨_, rfl, by assumption, rfl, rfl, rfl⟩
    · cases he
  · cases he
theorem mm_b1_inv {c : ClassFile.Cond} (he : mm_b1 c L st h = some (j, L2, st2, h2)) : ∃ x, st = .int x :: st2 ∧ j = (if mm_cnd c x 0 = true then some 0 else none) ∧ L2 = L ∧ h2 = h := by
  unfold mm_b1 at he
  split at he
  · cases he; exact ⟨_, rfl, rfl, rfl, rfl⟩
  · cases he
theorem mm_b2_inv {c : ClassFile.Cond} (he : mm_b2 c L st h = some (j, L2, st2, h2)) : ∃ x y, st = .int y :: .int x :: st2 ∧ j = (if mm_cnd c x y = true then some 0 else none) ∧ L2 = L ∧ h2 = h := by
  unfold mm_b2 at he
  split at he
  · cases he; exact ⟨_, _, rfl, rfl, rfl, rfl⟩
  · cases he
theorem mm_gf_inv {ci k : Nat} (he : mm_gf ci k L st h = some (j, L2, st2, h2)) : ∃ a r c, st = .ref a :: r ∧ h.1[a]? = some c ∧ c.1 = ci ∧ k < c.2.1 ∧ j = none ∧ L2 = L ∧ st2 = mm_fv id (mm_ty ci k) (h.2.1 a k) (h.2.2 a k) (c.2.2[k]?.join) :: r ∧ h2 = h := by
  unfold mm_gf at he
  split at he
  · split at he
    · split at he
      · rename_i q
        cases he; exact ⟨_, _, _, rfl, by assumption, q.1, q.2, rfl, rfl, rfl, rfl⟩
      · cases he
    · cases he
  · cases he
theorem mm_pf_inv {ci k : Nat} (he : mm_pf ci k L st h = some (j, L2, st2, h2)) : ∃ v a c, st = v :: .ref a :: st2 ∧ h.1[a]? = some c ∧ c.1 = ci ∧ k < c.2.1 ∧ mm_wr (mm_ty ci k) v c a k h = some h2 ∧ j = none ∧ L2 = L := by
  unfold mm_pf at he
  split at he
  · split at he
    · split at he
      · split at he
        · rename_i q _ _ _
          cases he; exact ⟨_, _, _, rfl, by assumption, q.1, q.2, by assumption, rfl, rfl⟩
        · cases he
      · cases he
    · cases he
  · cases he
theorem mm_al_inv {Lx : Nat} {ks : List Nat} {f : Nat → Nat → mm_C → Value} (he : mm_al Lx ks f L st h = some (j, L2, st2, h2)) : ∃ x a r c, st = .int x :: .ref a :: r ∧ mm_kd Lx h a = some c ∧ c.1 ∈ ks ∧ 0 ≤ x ∧ x.toNatClampNeg < c.2.1 ∧ j = none ∧ L2 = L ∧ st2 = f a x.toNatClampNeg c :: r ∧ h2 = h := by
  unfold mm_al at he
  split at he
  · split at he
    · split at he
      · rename_i q
        cases he; exact ⟨_, _, _, _, rfl, by assumption, q.1, q.2.1, q.2.2, rfl, rfl, rfl, rfl⟩
      · cases he
    · cases he
  · cases he
theorem mm_as_inv {ks : List Nat} {g : Value → Nat → Nat → mm_C → Option mm_H} (he : mm_as ks g L st h = some (j, L2, st2, h2)) : ∃ v x a c, st = v :: .int x :: .ref a :: st2 ∧ h.1[a]? = some c ∧ c.1 ∈ ks ∧ 0 ≤ x ∧ x.toNatClampNeg < c.2.1 ∧ g v a x.toNatClampNeg c = some h2 ∧ j = none ∧ L2 = L := by
  unfold mm_as at he
  split at he
  · split at he
    · split at he
      · split at he
        · rename_i q _ _ _
          cases he; exact ⟨_, _, _, _, rfl, by assumption, q.1, q.2.1, q.2.2, by assumption, rfl, rfl⟩
        · cases he
      · cases he
    · cases he
  · cases he
theorem mm_len_inv {Lx : Nat} (he : mm_len Lx L st h = some (j, L2, st2, h2)) : ∃ a r c, st = .ref a :: r ∧ mm_kd Lx h a = some c ∧ (100 ≤ c.1 ∧ c.1 ≤ 104) ∧ j = none ∧ L2 = L ∧ st2 = .int (Int32.ofNat c.2.1) :: r ∧ h2 = h := by
  unfold mm_len at he
  split at he
  · split at he
    · split at he
      · cases he; exact ⟨_, _, _, rfl, by assumption, by assumption, rfl, rfl, rfl, rfl⟩
      · cases he
    · cases he
  · cases he
theorem mm_nw_inv {ci N : Nat} (he : mm_nw ci N L st h = some (j, L2, st2, h2)) : h.1.length < 1000 ∧ j = none ∧ L2 = L ∧ st2 = .ref h.1.length :: st ∧ h2 = mm_grow h (ci, N, List.replicate N none) := by
  unfold mm_nw at he
  split at he
  · cases he; exact ⟨by assumption, rfl, rfl, rfl, rfl⟩
  · cases he
theorem mm_na_inv {kd : Nat} (he : mm_na kd L st h = some (j, L2, st2, h2)) : ∃ n r, st = .int n :: r ∧ h.1.length < 1000 ∧ 0 ≤ n ∧ n.toNatClampNeg ≤ 100000 ∧ j = none ∧ L2 = L ∧ st2 = .ref h.1.length :: r ∧ h2 = mm_grow h (kd, n.toNatClampNeg, List.replicate n.toNatClampNeg none) := by
  unfold mm_na at he
  split at he
  · split at he
    · rename_i q
      cases he; exact ⟨_, _, rfl, q.1, q.2.1, q.2.2, rfl, rfl, rfl, rfl⟩
    · cases he
  · cases he
end Inv
theorem mm_cf : ∀ (ci : Nat) (C : String) (T : u_T) (N : Nat), mm_cls[ci]? = some (C, T, N) → ci < 10 ∧ C = mm_cn ci ∧ T = mm_Tc ci ∧ (∀ k, k < N → (T k).1 = mm_cn ci) ∧ (∀ w ∈ u_ws C T N, w ∈ mm_gw) ∧ (∀ k, k < N → parseFieldDescriptor (T k).2.2.1 = some (mm_ty ci k)) ∧ (∀ a, a < N → ∀ b, b < N → a ≠ b → (T a).2.1 ≠ (T b).2.1) ∧ (∀ k, k < N → mm_ty ci k ≠ .float ∧ mm_ty ci k ≠ .double) := by
  intro ci C T N h
  rcases ci with _ | _ | _ | _ | _ | _ | _ | _ | _ | _ | ci
  · cases h; exact ⟨by decide, rfl, rfl, by decide +kernel, by decide +kernel, tyX0_ok, nmX0, by decide +kernel⟩
  · cases h; exact ⟨by decide, rfl, rfl, by decide +kernel, by decide +kernel, tyX1_ok, nmX1, by decide +kernel⟩
  · cases h; exact ⟨by decide, rfl, rfl, by decide +kernel, by decide +kernel, tyX2_ok, nmX2, by decide +kernel⟩
  · cases h; exact ⟨by decide, rfl, rfl, by decide +kernel, by decide +kernel, tyX3_ok, nmX3, by decide +kernel⟩
  · cases h; exact ⟨by decide, rfl, rfl, by decide +kernel, by decide +kernel, tyX4_ok, nmX4, by decide +kernel⟩
  · cases h; exact ⟨by decide, rfl, rfl, by decide +kernel, by decide +kernel, tyX5_ok, nmX5, by decide +kernel⟩
  · cases h; exact ⟨by decide, rfl, rfl, by decide +kernel, by decide +kernel, tyX6_ok, nmX6, by decide +kernel⟩
  · cases h; exact ⟨by decide, rfl, rfl, by decide +kernel, by decide +kernel, tyX7_ok, nmX7, by decide +kernel⟩
  · cases h; exact ⟨by decide, rfl, rfl, by decide +kernel, by decide +kernel, tyX8_ok, nmX8, by decide +kernel⟩
  · cases h; exact ⟨by decide, rfl, rfl, by decide +kernel, by decide +kernel, tyX9_ok, nmX9, by decide +kernel⟩
  · cases h
theorem mm_in {x : Int32} {n : Nat} (h0 : 0 ≤ x) (hn : x.toNatClampNeg < n) : vp_in x n := by
  unfold vp_in
  rintro (h | h)
  · have h1 := Int32.lt_iff_toInt_lt.mp h
    have h2 := Int32.le_iff_toInt_le.mp h0
    omega
  · omega
theorem mm_ph_lt {B : Nat} {od : Nat → Nat} {a : Nat} (h : a < 1000) : mm_ph B od a = B + a := by simp [mm_ph, h]
theorem mm_Wd_lt {B : Nat} {od : Nat → Nat} {D : va_G} {dA : Nat → ClassId} {xs : Nat → Int32} {h : mm_H} {H : Heap} (hW : mm_Wd B od D dA xs h H) {a : Nat} {c : mm_C} (hc : h.1[a]? = some c) : a < 1000 := Nat.lt_of_lt_of_le (List.getElem?_eq_some_iff.mp hc).1 hW.2.1

