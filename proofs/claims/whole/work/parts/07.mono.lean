/-! the heap only grows; what is checked of a program -/
def mm_le (h h2 : mm_H) : Prop := h.1.length ≤ h2.1.length ∧ mm_sl h ≤ mm_sl h2
theorem mm_le_rfl {h : mm_H} : mm_le h h := ⟨Nat.le_refl _, Nat.le_refl _⟩
theorem mm_le_tr {h h2 h3 : mm_H} (a : mm_le h h2) (b : mm_le h2 h3) : mm_le h h3 := ⟨Nat.le_trans a.1 b.1, Nat.le_trans a.2 b.2⟩
theorem mm_le_set {h : mm_H} {a : Nat} {c c2 : mm_C} {I2 : Nat → Nat → Int32} {J2 : Nat → Nat → Int64} (hc : h.1[a]? = some c) (hs : c2.2.1 = c.2.1) : mm_le h (h.1.set a c2, I2, J2) := ⟨by simp, by rw [mm_sl_set hc hs]; exact Nat.le_refl _⟩
theorem mm_le_same {h : mm_H} {I2 : Nat → Nat → Int32} {J2 : Nat → Nat → Int64} : mm_le h (h.1, I2, J2) := ⟨Nat.le_refl _, Nat.le_refl _⟩
theorem mm_le_grow {h : mm_H} {c : mm_C} : mm_le h (mm_grow h c) := ⟨by rw [mm_len_grow]; omega, by rw [mm_sl_grow]; omega⟩
theorem mm_str_inv {ax : List Nat} {L L2 : mm_L} {st st2 : List Value} {h h2 : mm_H} {j : Option Nat} (he : mm_str ax L st h = some (j, L2, st2, h2)) : j = none ∧ L2 = L ∧ h2 = h ∧ ((∃ a r, ax.getD 0 0 = 0 ∧ st = .ref a :: r ∧ r.length ≤ 4 ∧ (1003 ≤ a ∧ a ≤ 1008) ∧ st2 = .int (nI (mm_tx a).length) :: r) ∨ ∃ x a r, ax.getD 0 0 = 1 ∧ st = .int x :: .ref a :: r ∧ r.length ≤ 4 ∧ (1003 ≤ a ∧ a ≤ 1008) ∧ 0 ≤ x ∧ x.toNatClampNeg < (mm_tx a).length ∧ st2 = .int (nI ((mm_tx a).getD x.toNatClampNeg 0)) :: r) := by
  unfold mm_str at he
  split at he
  · split at he
    · split at he
      · rename_i q
        cases he
        exact ⟨rfl, rfl, rfl, Or.inl ⟨_, _, rfl, rfl, q.1, q.2, rfl⟩⟩
      · cases he
    · cases he
  · split at he
    · split at he
      · rename_i q
        cases he
        exact ⟨rfl, rfl, rfl, Or.inr ⟨_, _, _, rfl, rfl, q.1, ⟨q.2.1, q.2.2.1⟩, q.2.2.2.1, q.2.2.2.2, rfl⟩⟩
      · cases he
    · cases he
  · cases he
set_option maxHeartbeats 4000000 in
theorem mm_stp_le {Lx : Nat} {ins : Instr} {ax : List Nat} {L L2 : mm_L} {st st2 : List Value} {h h2 : mm_H} {j : Option Nat} (he : mm_stp Lx ins ax L st h = some (j, L2, st2, h2)) : mm_le h h2 := by
  have same : h2 = h → mm_le h h2 := by rintro rfl; exact mm_le_rfl
  cases ins with
  | iconst n => simp only [mm_stp] at he; (cases he; exact mm_le_rfl)
  | bipush n => simp only [mm_stp] at he; (cases he; exact mm_le_rfl)
  | sipush n => simp only [mm_stp] at he; (cases he; exact mm_le_rfl)
  | lconst n => simp only [mm_stp] at he; (cases he; exact mm_le_rfl)
  | ldc_w n => simp only [mm_stp] at he; split at he <;> (cases he; exact mm_le_rfl)
  | ldc2_w n => simp only [mm_stp] at he; (cases he; exact mm_le_rfl)
  | goto n => simp only [mm_stp] at he; (cases he; exact mm_le_rfl)
  | getstatic n => simp only [mm_stp] at he; (cases he; exact mm_le_rfl)
  | ldc n => simp only [mm_stp] at he; split at he <;> (cases he; exact mm_le_rfl)
  | iload_n n => simp only [mm_stp] at he; (obtain ⟨v, -, -, -, -, -, q⟩ := mm_ld_inv he; exact same q)
  | iload n => simp only [mm_stp] at he; (obtain ⟨v, -, -, -, -, -, q⟩ := mm_ld_inv he; exact same q)
  | lload_n n => simp only [mm_stp] at he; (obtain ⟨v, -, -, -, -, -, q⟩ := mm_ld_inv he; exact same q)
  | lload n => simp only [mm_stp] at he; (obtain ⟨v, -, -, -, -, -, q⟩ := mm_ld_inv he; exact same q)
  | aload_n n => simp only [mm_stp] at he; (obtain ⟨v, -, -, -, -, -, q⟩ := mm_ld_inv he; exact same q)
  | aload n => simp only [mm_stp] at he; (obtain ⟨v, -, -, -, -, -, q⟩ := mm_ld_inv he; exact same q)
  | istore_n n => simp only [mm_stp] at he; (obtain ⟨v, -, -, -, -, q⟩ := mm_sv_inv he; exact same q)
  | istore n => simp only [mm_stp] at he; (obtain ⟨v, -, -, -, -, q⟩ := mm_sv_inv he; exact same q)
  | lstore_n n => simp only [mm_stp] at he; (obtain ⟨v, -, -, -, -, q⟩ := mm_sv_inv he; exact same q)
  | lstore n => simp only [mm_stp] at he; (obtain ⟨v, -, -, -, -, q⟩ := mm_sv_inv he; exact same q)
  | astore_n n => simp only [mm_stp] at he; (obtain ⟨v, -, -, -, -, q⟩ := mm_sv_inv he; exact same q)
  | astore n => simp only [mm_stp] at he; (obtain ⟨v, -, -, -, -, q⟩ := mm_sv_inv he; exact same q)
  | iinc i n => simp only [mm_stp] at he; (split at he <;> first | (cases he; done) | (cases he; exact mm_le_rfl))
  | iadd => simp only [mm_stp] at he; (obtain ⟨x, y, r, -, -, -, -, q⟩ := mm_i2_inv he; exact same q)
  | isub => simp only [mm_stp] at he; (obtain ⟨x, y, r, -, -, -, -, q⟩ := mm_i2_inv he; exact same q)
  | imul => simp only [mm_stp] at he; (obtain ⟨x, y, r, -, -, -, -, q⟩ := mm_i2_inv he; exact same q)
  | iand => simp only [mm_stp] at he; (obtain ⟨x, y, r, -, -, -, -, q⟩ := mm_i2_inv he; exact same q)
  | ior => simp only [mm_stp] at he; (obtain ⟨x, y, r, -, -, -, -, q⟩ := mm_i2_inv he; exact same q)
  | ixor => simp only [mm_stp] at he; (obtain ⟨x, y, r, -, -, -, -, q⟩ := mm_i2_inv he; exact same q)
  | ishl => simp only [mm_stp] at he; (obtain ⟨x, y, r, -, -, -, -, q⟩ := mm_i2_inv he; exact same q)
  | ishr => simp only [mm_stp] at he; (obtain ⟨x, y, r, -, -, -, -, q⟩ := mm_i2_inv he; exact same q)
  | iushr => simp only [mm_stp] at he; (obtain ⟨x, y, r, -, -, -, -, q⟩ := mm_i2_inv he; exact same q)
  | idiv => simp only [mm_stp] at he; (obtain ⟨x, y, r, -, -, -, -, -, q⟩ := mm_i2d_inv he; exact same q)
  | irem => simp only [mm_stp] at he; (obtain ⟨x, y, r, -, -, -, -, -, q⟩ := mm_i2d_inv he; exact same q)
  | ineg => simp only [mm_stp] at he; (obtain ⟨x, r, -, -, -, -, q⟩ := mm_i1_inv he; exact same q)
  | i2l => simp only [mm_stp] at he; (obtain ⟨x, r, -, -, -, -, q⟩ := mm_i1_inv he; exact same q)
  | i2b => simp only [mm_stp] at he; (obtain ⟨x, r, -, -, -, -, q⟩ := mm_i1_inv he; exact same q)
  | ladd => simp only [mm_stp] at he; (obtain ⟨x, y, r, -, -, -, -, q⟩ := mm_j2_inv he; exact same q)
  | lsub => simp only [mm_stp] at he; (obtain ⟨x, y, r, -, -, -, -, q⟩ := mm_j2_inv he; exact same q)
  | lmul => simp only [mm_stp] at he; (obtain ⟨x, y, r, -, -, -, -, q⟩ := mm_j2_inv he; exact same q)
  | lxor => simp only [mm_stp] at he; (obtain ⟨x, y, r, -, -, -, -, q⟩ := mm_j2_inv he; exact same q)
  | lcmp => simp only [mm_stp] at he; (obtain ⟨x, y, r, -, -, -, -, q⟩ := mm_j2_inv he; exact same q)
  | ldiv => simp only [mm_stp] at he; (obtain ⟨x, y, r, -, -, -, -, -, q⟩ := mm_j2d_inv he; exact same q)
  | lrem => simp only [mm_stp] at he; (obtain ⟨x, y, r, -, -, -, -, -, q⟩ := mm_j2d_inv he; exact same q)
  | lneg => simp only [mm_stp] at he; (obtain ⟨x, r, -, -, -, -, q⟩ := mm_j1_inv he; exact same q)
  | l2i => simp only [mm_stp] at he; (obtain ⟨x, r, -, -, -, -, q⟩ := mm_j1_inv he; exact same q)
  | dup => simp only [mm_stp] at he; (split at he <;> first | (cases he; done) | (split at he <;> first | (cases he; done) | (cases he; exact mm_le_rfl)))
  | pop => simp only [mm_stp] at he; (split at he <;> first | (cases he; done) | (split at he <;> first | (cases he; done) | (cases he; exact mm_le_rfl)))
  | dup2 => simp only [mm_stp] at he; (split at he <;> first | (cases he; done) | (cases he; exact mm_le_rfl))
  | ifCond a b => simp only [mm_stp] at he; (obtain ⟨v, -, -, -, q⟩ := mm_b1_inv he; exact same q)
  | if_icmp a b => simp only [mm_stp] at he; (obtain ⟨v, w, -, -, -, q⟩ := mm_b2_inv he; exact same q)
  | tableswitch a b c d => simp only [mm_stp] at he; (unfold mm_sw at he; split at he <;> first | (cases he; done) | (cases he; exact mm_le_rfl))
  | getfield n => simp only [mm_stp] at he; (obtain ⟨a, r, c, -, -, -, -, -, -, -, q⟩ := mm_gf_inv he; exact same q)
  | putfield n => simp only [mm_stp] at he; (obtain ⟨v, a, c, -, hc, -, -, hw, -, -⟩ := mm_pf_inv he; obtain ⟨e1, e2⟩ := mm_wr_len hc hw; exact ⟨by omega, by omega⟩)
  | iaload => simp only [mm_stp] at he; (obtain ⟨x, a, r, c, -, -, -, -, -, -, -, -, q⟩ := mm_al_inv he; exact same q)
  | baload => simp only [mm_stp] at he; (obtain ⟨x, a, r, c, -, -, -, -, -, -, -, -, q⟩ := mm_al_inv he; exact same q)
  | laload => simp only [mm_stp] at he; (obtain ⟨x, a, r, c, -, -, -, -, -, -, -, -, q⟩ := mm_al_inv he; exact same q)
  | aaload => simp only [mm_stp] at he; (obtain ⟨x, a, r, c, -, -, -, -, -, -, -, -, q⟩ := mm_al_inv he; exact same q)
  | iastore => simp only [mm_stp] at he; (obtain ⟨v, x, a, c, -, hc, -, -, -, hg, -, -⟩ := mm_as_inv he; split at hg <;> first | (cases hg; done) | (cases hg; exact mm_le_same))
  | bastore => simp only [mm_stp] at he; (obtain ⟨v, x, a, c, -, hc, -, -, -, hg, -, -⟩ := mm_as_inv he; split at hg <;> first | (cases hg; done) | (cases hg; exact mm_le_same))
  | lastore => simp only [mm_stp] at he; (obtain ⟨v, x, a, c, -, hc, -, -, -, hg, -, -⟩ := mm_as_inv he; split at hg <;> first | (cases hg; done) | (cases hg; exact mm_le_same))
  | aastore => simp only [mm_stp] at he; (obtain ⟨v, x, a, c, -, hc, -, -, -, hg, -, -⟩ := mm_as_inv he; split at hg <;> first | (cases hg; done) | (split at hg <;> first | (cases hg; done) | (split at hg <;> first | (cases hg; done) | (cases hg; exact mm_le_set hc rfl))))
  | arraylength => simp only [mm_stp] at he; (obtain ⟨a, r, c, -, -, -, -, -, -, q⟩ := mm_len_inv he; exact same q)
  | new n => simp only [mm_stp] at he; (obtain ⟨-, -, -, -, rfl⟩ := mm_nw_inv he; exact mm_le_grow)
  | newarray n => simp only [mm_stp] at he; (obtain ⟨n, r, -, -, -, -, -, -, -, rfl⟩ := mm_na_inv he; exact mm_le_grow)
  | anewarray n => simp only [mm_stp] at he; (obtain ⟨n, r, -, -, -, -, -, -, -, rfl⟩ := mm_na_inv he; exact mm_le_grow)
  | invokespecial n => simp only [mm_stp] at he; (split at he <;> first | (cases he; done) | (cases he; exact mm_le_rfl))
  | invokevirtual n => simp only [mm_stp] at he; (obtain ⟨-, -, q, -⟩ := mm_str_inv he; exact same q)
  | _ => cases he
theorem mm_rt_le {rk : Nat} {st : List Value} {h h2 : mm_H} {r : Option Value} (he : mm_rt rk st h = some (r, h2)) : h2 = h := by
  unfold mm_rt at he
  split at he <;> cases he <;> rfl
theorem mm_ex_le {cd : Nat → List mm_E} {Lx : Nat} : ∀ (n k : Nat) (is : List mm_E) (L : mm_L) (st : List Value) (h : mm_H) (r : Option Value) (h2 : mm_H), mm_ex cd Lx n k is L st h = some (r, h2) → mm_le h h2 := by
  intro n
  induction n with
  | zero => intro k is L st h r h2 he; cases he
  | succ n ih =>
    intro k is L st h r h2 he
    unfold mm_ex at he
    split at he
    · cases he
    · split at he
      · split at he
        · rename_i hs; exact mm_le_tr (mm_stp_le hs) (ih _ _ _ _ _ _ _ he)
        · rename_i hs; exact mm_le_tr (mm_stp_le hs) (ih _ _ _ _ _ _ _ he)
        · cases he
      · split at he
        · split at he
          · rename_i hs; exact mm_le_tr (ih _ _ _ _ _ _ _ hs) (ih _ _ _ _ _ _ _ he)
          · cases he
        · cases he
      · rw [mm_rt_le he]; exact mm_le_rfl
      · cases he
def mm_pcs (es : List mm_E) : Nat := match es with
  | e :: _ => e.1
  | [] => 0
def mm_ix (j : Option Nat) (i : Nat) (ax : List Nat) : Nat := match j with
  | none => i + 1
  | some q => ax.getD q 0
def mm_isj (ins : Instr) : Bool := match ins with
  | .goto _ => true
  | .ifCond _ _ => true
  | .if_icmp _ _ => true
  | .tableswitch _ _ _ _ => true
  | _ => false
def mm_fall (ins : Instr) : Bool := match ins with
  | .goto _ => false
  | .tableswitch _ _ _ _ => false
  | _ => true
/-- the check of a jump's targets -/
def mm_jok (es : List mm_E) (ins : Instr) (ax : List Nat) : Bool := if mm_isj ins = true then
    (match ins with
    | .tableswitch _ _ _ offs => decide (ax.length = 2 * (offs.size + 1))
    | _ => decide (ax.length = 2)) && (List.range (ax.length / 2)).all (fun i => decide ((es[ax.getD (2 * i) 0]?).map (fun e => e.1) = some (ax.getD (2 * i + 1) 0)))
  else true
/-- the check of a call: ax: method, values, receiver, its locals, words: code, initialized, link, (instance or static), selects, nest -/
def mm_ckc (nt : Nat → Option (List Nat)) (mt : Nat → mm_M) (k : Nat) (ins : Instr) (len : Nat) (ax : List Nat) : Bool :=
  match mt k, mt (ax.getD 0 0) with
  | (_, _, _, _, fr, lo, o, _, _), (_, _, maxL, ret, fr2, lo2, o2, np, ini) =>
    decide (len = 3) && decide (ax.getD 3 0 = maxL) && decide (fr2 + 1 ≤ fr) && decide (8 + (maxL + 11) + lo2 ≤ lo) &&
    mm_wd nt (ax.getD 4 0) [18, ax.getD 0 0] && mm_wd nt (ax.getD 5 0) [8, o2] &&
    (match ins with
    | .invokestatic i => decide (np = ax.getD 1 0) && mm_wd nt (ax.getD 7 0) [16, ax.getD 0 0] && (if ax.getD 9 0 = 0 then mm_wd nt (ax.getD 6 0) [13, o, i, ax.getD 0 0] else mm_wd nt (ax.getD 6 0) [14, o, i, ax.getD 0 0])
    | .invokevirtual i => decide (np + 1 = ax.getD 1 0) && mm_wd nt (ax.getD 7 0) [15, ax.getD 0 0] && mm_wd nt (ax.getD 8 0) [17, ax.getD 0 0] && mm_wd nt (ax.getD 6 0) [13, o, i, ax.getD 0 0] && decide (ax.getD 2 0 = o2 + 1) && decide (o2 < 10)
    | .invokespecial i => decide (np + 1 = ax.getD 1 0) && decide (ax.getD 2 0 ≠ 0) && ini && decide (ret = none) && mm_wd nt (ax.getD 7 0) [15, ax.getD 0 0] && (if ax.getD 9 0 = 0 then mm_wd nt (ax.getD 6 0) [13, o, i, ax.getD 0 0] else mm_wd nt (ax.getD 6 0) [14, o, i, ax.getD 0 0])
    | _ => false)
def mm_ckr (ret : Option FieldType) (ins : Instr) (len : Nat) (ax : List Nat) : Bool := decide (len = 1) && (match ins with
  | .return_ => decide (ax.getD 0 0 = 0) && decide (ret = none)
  | .ireturn => (decide (ax.getD 0 0 = 1) && decide (ret = some .int)) || (decide (ax.getD 0 0 = 2) && decide (ret = some .boolean))
  | .lreturn => decide (ax.getD 0 0 = 3) && decide (ret = some .long)
  | .areturn => decide (ax.getD 0 0 = 4) && decide (ret = some (.array (.object RX3)))
  | _ => false)
/-- a call of a text's length or of a char of it: its words -/
def mm_cks (nt : Nat → Option (List Nat)) (o fr lo : Nat) (ins : Instr) (len : Nat) (ax : List Nat) : Bool := match ins with
  | .invokevirtual i => decide (len = 3) && decide (5 ≤ fr) && decide (100 ≤ lo) && (if ax.getD 0 0 = 0 then mm_wd nt (ax.getD 1 0) [19, o, i, 0] else mm_wd nt (ax.getD 1 0) [19, o, i, 1])
  | _ => false
def mm_sok (nt : Nat → Option (List Nat)) (cd : Nat → List mm_E) (mt : Nat → mm_M) (k i : Nat) (e : mm_E) : Bool :=
  match e, mt k with
  | (pc, ins, len, tg, ax), (_, bytes, maxL, ret, fr, lo, o, _, ini) =>
    decide (decode bytes pc = .ok (ins, len)) && (match tg with
    | 0 => (mm_chk nt o ini maxL pc ins len ax || mm_cks nt o fr lo ins len ax) && mm_jok (cd k) ins ax && (!mm_fall ins || decide (((cd k)[i + 1]?).map (fun e => e.1) = some (pc + len))) && (match ins with
      | .invokespecial _ => decide (1 ≤ fr) && decide (12 ≤ lo)
      | _ => true)
    | 1 => mm_ckc nt mt k ins len ax && decide (((cd k)[i + 1]?).map (fun e => e.1) = some (pc + len))
    | 2 => mm_ckr ret ins len ax
    | _ => false)
/-- what is asked of a method as a whole -/
def mm_mok (q : mm_M) : Prop := plainFor q.1 = true ∧ q.1.cls = mm_cn q.2.2.2.2.2.2.1 ∧ (q.1.cls ≠ "java/lang/invoke/MethodHandle" ∧ q.1.cls ≠ "java/lang/invoke/VarHandle") ∧ (parseMethodDescriptor q.1.desc).map (fun d => d.parameters.length) = some q.2.2.2.2.2.2.2.1 ∧ (q.2.2.2.2.2.2.2.2 = true → q.1.name = "<init>")
