/-! the constructors: a machine for them alone, closed, so that the kernel runs it -/
abbrev cx_W : Type := List (Nat × Nat × Int32)
def cx_val (ws : cx_W) (a k : Nat) : Int32 := match ws with
  | [] => 0
  | (b, j, x) :: r => if b = a ∧ j = k then x else cx_val r a k
def cx_rty (t : FieldType) : Bool := match t with
  | .object _ => true
  | .array _ => true
  | _ => false
abbrev cx_R : Type := Option (Option Nat × mm_L × List Value × List mm_C × cx_W)
def cx_stp (ins : Instr) (ax : List Nat) (L : mm_L) (st : List Value) (C : List mm_C) (ws : cx_W) : cx_R :=
  match ins with
  | .iconst _ => some (none, L, .int (Int32.ofNat (ax.getD 0 0)) :: st, C, ws)
  | .bipush _ => some (none, L, .int (Int32.ofNat (ax.getD 0 0)) :: st, C, ws)
  | .sipush _ => some (none, L, .int (Int32.ofNat (ax.getD 0 0)) :: st, C, ws)
  | .iload_n k => (match mm_get L k with
    | some (.int x) => some (none, L, .int x :: st, C, ws)
    | _ => none)
  | .aload_n k => (match mm_get L k with
    | some (.ref x) => some (none, L, .ref x :: st, C, ws)
    | _ => none)
  | .istore_n k => (match st with
    | .int x :: r => some (none, mm_put L k (.int x), r, C, ws)
    | _ => none)
  | .astore_n k => (match st with
    | .ref x :: r => some (none, mm_put L k (.ref x), r, C, ws)
    | _ => none)
  | .iinc i n => (match mm_get L i with
    | some (.int x) => some (none, mm_put L i (.int (x + Int32.ofInt n)), st, C, ws)
    | _ => none)
  | .dup => (match st with
    | .ref x :: r => some (none, L, .ref x :: .ref x :: r, C, ws)
    | _ => none)
  | .goto _ => some (some 0, L, st, C, ws)
  | .if_icmp c _ => (match st with
    | .int y :: .int x :: r => some (if mm_cnd c x y = true then some 0 else none, L, r, C, ws)
    | _ => none)
  | .putfield _ => (match st with
    | .ref b :: .ref a :: r => (match C[a]? with
      | some c => if c.1 = ax.getD 0 0 ∧ ax.getD 1 0 < c.2.1 ∧ ax.getD 1 0 < c.2.2.length ∧ cx_rty (mm_ty (ax.getD 0 0) (ax.getD 1 0)) = true then some (none, L, r, C.set a (c.1, c.2.1, c.2.2.set (ax.getD 1 0) (some b)), ws) else none
      | none => none)
    | .int x :: .ref a :: r => (match C[a]? with
      | some c => if c.1 = ax.getD 0 0 ∧ ax.getD 1 0 < c.2.1 ∧ (mm_ty (ax.getD 0 0) (ax.getD 1 0) = .int ∨ (mm_ty (ax.getD 0 0) (ax.getD 1 0) = .boolean ∧ (x = 0 ∨ x = 1))) then some (none, L, r, C, (a, ax.getD 1 0, x) :: ws) else none
      | none => none)
    | _ => none)
  | .arraylength => (match st with
    | .ref a :: r => if a < 1000 then (match C[a]? with
      | some c => if 100 ≤ c.1 ∧ c.1 ≤ 104 then some (none, L, .int (Int32.ofNat c.2.1) :: r, C, ws) else none
      | none => none) else none
    | _ => none)
  | .aastore => (match st with
    | .ref b :: .int j :: .ref a :: r => (match C[a]?, C[b]? with
      | some c, some d => if c.1 = 104 ∧ 0 ≤ j ∧ j.toNatClampNeg < c.2.1 ∧ d.1 = 3 ∧ j.toNatClampNeg < c.2.2.length then some (none, L, r, C.set a (c.1, c.2.1, c.2.2.set j.toNatClampNeg (some b)), ws) else none
      | _, _ => none)
    | _ => none)
  | .new _ => if C.length < 1000 then some (none, L, .ref C.length :: st, C ++ [(ax.getD 0 0, ax.getD 1 0, List.replicate (ax.getD 1 0) none)], ws) else none
  | .newarray t => (match st with
    | .int n :: r => if C.length < 1000 ∧ 0 ≤ n ∧ n.toNatClampNeg ≤ 100000 then some (none, L, .ref C.length :: r, C ++ [(mm_ak t, n.toNatClampNeg, List.replicate n.toNatClampNeg none)], ws) else none
    | _ => none)
  | .anewarray _ => (match st with
    | .int n :: r => if C.length < 1000 ∧ 0 ≤ n ∧ n.toNatClampNeg ≤ 100000 then some (none, L, .ref C.length :: r, C ++ [(104, n.toNatClampNeg, List.replicate n.toNatClampNeg none)], ws) else none
    | _ => none)
  | .invokespecial _ => (match st with
    | [.ref _] => some (none, L, [], C, ws)
    | _ => none)
  | _ => none
def cx_rt (rk : Nat) (st : List Value) : Option (Option Value) := (mm_rt rk st ([], fun _ _ => 0, fun _ _ => 0)).map (fun q => q.1)
def cx_ex (cd : Nat → List mm_E) : Nat → Nat → List mm_E → mm_L → List Value → List mm_C → cx_W → Option (Option Value × List mm_C × cx_W)
  | 0, _, _, _, _, _, _ => none
  | n + 1, k, is, L, st, C, ws => match is with
    | [] => none
    | (_, ins, _, tg, ax) :: is2 => match tg with
      | 0 => (match cx_stp ins ax L st C ws with
        | some (none, L2, st2, C2, ws2) => cx_ex cd n k is2 L2 st2 C2 ws2
        | some (some q, L2, st2, C2, ws2) => cx_ex cd n k ((cd k).drop (ax.getD q 0)) L2 st2 C2 ws2
        | none => none)
      | 1 => if mm_cok (ax.getD 1 0) (ax.getD 2 0) (ax.getD 3 0) st (C, fun _ _ => 0, fun _ _ => 0) = true then
          (match cx_ex cd n (ax.getD 0 0) (cd (ax.getD 0 0)) (mm_ar (st.take (ax.getD 1 0)).reverse) [] C ws with
          | some (r, C2, ws2) => cx_ex cd n k is2 L (r.toList ++ st.drop (ax.getD 1 0)) C2 ws2
          | none => none)
        else none
      | 2 => (match cx_rt (ax.getD 0 0) st with
        | some r => some (r, C, ws)
        | none => none)
      | _ => none
def cxI (ws : cx_W) (Ib : Nat → Nat → Int32) : Nat → Nat → Int32 := fun a k => if a < 1000 then cx_val ws a k else Ib a k
def cxJ : Nat → Nat → Int64 := fun _ _ => 0
def cx_in (ws : cx_W) (n : Nat) : Prop := ∀ q ∈ ws, q.1 < n
abbrev cxh (C : List mm_C) (ws : cx_W) (Ib : Nat → Nat → Int32) : mm_H := (C, cxI ws Ib, cxJ)
theorem cx_val0 {ws : cx_W} {n a k : Nat} (h : cx_in ws n) (ha : n ≤ a) : cx_val ws a k = 0 := by
  induction ws with
  | nil => rfl
  | cons q ws ih =>
    obtain ⟨b, j, x⟩ := q
    have h1 : b < n := h _ List.mem_cons_self
    unfold cx_val
    rw [if_neg (by omega)]
    exact ih (fun q hq => h q (List.mem_cons_of_mem _ hq))
theorem cx_grow {C : List mm_C} {ws : cx_W} {Ib : Nat → Nat → Int32} {c : mm_C} (h : cx_in ws C.length) (hc : C.length < 1000) : mm_grow (cxh C ws Ib) c = cxh (C ++ [c]) ws Ib := by
  unfold mm_grow cxh
  simp only [Prod.mk.injEq, true_and]
  constructor
  · funext y k
    by_cases hy : y = C.length
    · subst hy
      rw [if_pos rfl]
      unfold cxI
      rw [if_pos hc, cx_val0 h (Nat.le_refl _)]
    · rw [if_neg hy]
  · funext y k
    by_cases hy : y = C.length
    · subst hy; rw [if_pos rfl]; rfl
    · rw [if_neg hy]
theorem cx_uI {ws : cx_W} {Ib : Nat → Nat → Int32} {a k : Nat} {x : Int32} (ha : a < 1000) : mm_uI (cxI ws Ib) a k x = cxI ((a, k, x) :: ws) Ib := by
  funext y j
  by_cases hy : y = a
  · subst hy
    have e1 : mm_uI (cxI ws Ib) y k x y j = if j = k then x else cxI ws Ib y j := by simp only [mm_uI, if_true, upd]
    have e2 : cxI ((y, k, x) :: ws) Ib y j = if y = y ∧ k = j then x else cx_val ws y j := by simp only [cxI, if_pos ha, cx_val]
    have e3 : cxI ws Ib y j = cx_val ws y j := by simp only [cxI, if_pos ha]
    rw [e1, e2, e3]
    by_cases hj : j = k
    · rw [if_pos hj, if_pos ⟨rfl, hj.symm⟩]
    · rw [if_neg hj, if_neg (fun e => hj e.2.symm)]
  · have e1 : mm_uI (cxI ws Ib) a k x y j = cxI ws Ib y j := by simp only [mm_uI, if_neg hy]
    have e2 : cxI ((a, k, x) :: ws) Ib y j = cxI ws Ib y j := by
      simp only [cxI, cx_val]
      rw [if_neg (show ¬ (a = y ∧ k = j) from fun e => hy e.1.symm)]
    rw [e1, e2]
theorem cx_grow_in {ws : cx_W} {C : List mm_C} {c : mm_C} (h : cx_in ws C.length) : cx_in ws (C ++ [c]).length := fun q hq => by have := h q hq; simp; omega
theorem cx_stp_ok {Lx : Nat} {Ib : Nat → Nat → Int32} {ins : Instr} {ax : List Nat} {L L2 : mm_L} {st st2 : List Value} {C C2 : List mm_C} {ws ws2 : cx_W} {j : Option Nat} (h : cx_stp ins ax L st C ws = some (j, L2, st2, C2, ws2)) (hi : cx_in ws C.length) (hc : C.length ≤ 1000) : mm_stp Lx ins ax L st (cxh C ws Ib) = some (j, L2, st2, cxh C2 ws2 Ib) ∧ cx_in ws2 C2.length ∧ C2.length ≤ 1000 := by
  cases ins with
  | iconst n => simp only [cx_stp] at h; cases h; exact ⟨rfl, hi, hc⟩
  | bipush n => simp only [cx_stp] at h; cases h; exact ⟨rfl, hi, hc⟩
  | sipush n => simp only [cx_stp] at h; cases h; exact ⟨rfl, hi, hc⟩
  | iload_n n =>
    simp only [cx_stp] at h
    split at h
    · rename_i x hx; cases h; exact ⟨by simp only [mm_stp, mm_ld, hx, mm_tag, if_true], hi, hc⟩
    · cases h
  | aload_n n =>
    simp only [cx_stp] at h
    split at h
    · rename_i x hx; cases h; exact ⟨by simp only [mm_stp, mm_ld, hx, mm_tag, if_true], hi, hc⟩
    · cases h
  | istore_n n =>
    simp only [cx_stp] at h
    split at h
    · cases h; exact ⟨by simp only [mm_stp, mm_sv, mm_tag, if_true], hi, hc⟩
    · cases h
  | astore_n n =>
    simp only [cx_stp] at h
    split at h
    · cases h; exact ⟨by simp only [mm_stp, mm_sv, mm_tag, if_true], hi, hc⟩
    · cases h
  | iinc i n =>
    simp only [cx_stp] at h
    split at h
    · rename_i x hx; cases h; exact ⟨by simp only [mm_stp, hx], hi, hc⟩
    · cases h
  | dup =>
    simp only [cx_stp] at h
    split at h
    · cases h; exact ⟨by simp only [mm_stp, Value.category, if_true], hi, hc⟩
    · cases h
  | goto n => simp only [cx_stp] at h; cases h; exact ⟨rfl, hi, hc⟩
  | if_icmp c n =>
    simp only [cx_stp] at h
    split at h
    · cases h; exact ⟨by simp only [mm_stp, mm_b2], hi, hc⟩
    · cases h
  | putfield n =>
    simp only [cx_stp] at h
    split at h
    · rename_i b a r
      split at h
      · rename_i c hca
        split at h
        · rename_i hq
          obtain ⟨q1, q2, q3, q4⟩ := hq
          cases h
          have hal : a < C.length := (List.getElem?_eq_some_iff.mp hca).1
          refine ⟨?_, fun q hq => by rw [List.length_set]; exact hi q hq, by rw [List.length_set]; exact hc⟩
          simp only [mm_stp, mm_pf, hca]
          rw [if_pos ⟨q1, q2⟩]
          have hw : mm_wr (mm_ty (ax.getD 0 0) (ax.getD 1 0)) (.ref b) c a (ax.getD 1 0) (cxh C ws Ib) = some (cxh (C.set a (c.1, c.2.1, c.2.2.set (ax.getD 1 0) (some b))) ws Ib) := by
            revert q4
            generalize mm_ty (ax.getD 0 0) (ax.getD 1 0) = ty
            cases ty <;> intro q4 <;> first | (cases q4; done) | (simp only [mm_wr]; rw [if_pos q3])
          rw [hw]
        · cases h
      · cases h
    · rename_i x a r
      split at h
      · rename_i c hca
        split at h
        · rename_i hq
          obtain ⟨q1, q2, q3⟩ := hq
          cases h
          have hal : a < C.length := (List.getElem?_eq_some_iff.mp hca).1
          refine ⟨?_, fun q hq => by rcases List.mem_cons.mp hq with h | h; rw [h]; exact hal; exact hi q h, hc⟩
          simp only [mm_stp, mm_pf, hca]
          rw [if_pos ⟨q1, q2⟩]
          have hw : mm_wr (mm_ty (ax.getD 0 0) (ax.getD 1 0)) (.int x) c a (ax.getD 1 0) (cxh C ws Ib) = some (cxh C ((a, ax.getD 1 0, x) :: ws) Ib) := by
            rcases q3 with q3 | ⟨q3, q4⟩
            · rw [q3]; simp only [mm_wr]; rw [cx_uI (Nat.lt_of_lt_of_le hal hc)]
            · rw [q3]; simp only [mm_wr]; rw [if_pos q4, cx_uI (Nat.lt_of_lt_of_le hal hc)]
          rw [hw]
        · cases h
      · cases h
    · cases h
  | arraylength =>
    simp only [cx_stp] at h
    split at h
    · rename_i a r
      split at h
      · rename_i ha
        split at h
        · rename_i c hca
          split at h
          · rename_i hq
            cases h
            exact ⟨by simp only [mm_stp, mm_len, mm_kd, ha, if_true, hca]; rw [if_pos hq], hi, hc⟩
          · cases h
        · cases h
      · cases h
    · cases h
  | aastore =>
    simp only [cx_stp] at h
    split at h
    · rename_i b jj a r
      split at h
      · rename_i c d hca hdb
        split at h
        · rename_i hq
          obtain ⟨q1, q2, q3, q4, q5⟩ := hq
          cases h
          refine ⟨?_, fun q hq => by rw [List.length_set]; exact hi q hq, by rw [List.length_set]; exact hc⟩
          simp only [mm_stp, mm_as, hca]
          rw [if_pos ⟨by rw [q1]; decide, q2, q3⟩]
          simp only [hdb]
          rw [if_pos ⟨q4, q5⟩]
        · cases h
      · cases h
    · cases h
  | new n =>
    simp only [cx_stp] at h
    split at h
    · rename_i hq
      cases h
      refine ⟨?_, cx_grow_in hi, by simp; omega⟩
      simp only [mm_stp, mm_nw]
      rw [if_pos hq, cx_grow hi hq]
    · cases h
  | newarray n =>
    simp only [cx_stp] at h
    split at h
    · split at h
      · rename_i hq
        cases h
        refine ⟨?_, cx_grow_in hi, by simp; omega⟩
        simp only [mm_stp, mm_na]
        rw [if_pos hq, cx_grow hi hq.1]
      · cases h
    · cases h
  | anewarray n =>
    simp only [cx_stp] at h
    split at h
    · split at h
      · rename_i hq
        cases h
        refine ⟨?_, cx_grow_in hi, by simp; omega⟩
        simp only [mm_stp, mm_na]
        rw [if_pos hq, cx_grow hi hq.1]
      · cases h
    · cases h
  | invokespecial n =>
    simp only [cx_stp] at h
    split at h
    · cases h; exact ⟨by simp only [mm_stp], hi, hc⟩
    · cases h
  | _ => cases h
theorem cx_cok {n ci mx : Nat} {st : List Value} {C : List mm_C} {f f2 : Nat → Nat → Int32} {g g2 : Nat → Nat → Int64} : mm_cok n ci mx st (C, f, g) = mm_cok n ci mx st (C, f2, g2) := rfl
theorem cx_ex_ok {cd : Nat → List mm_E} {Lx : Nat} {Ib : Nat → Nat → Int32} : ∀ (n k : Nat) (is : List mm_E) (L : mm_L) (st : List Value) (C C2 : List mm_C) (ws ws2 : cx_W) (r : Option Value), cx_ex cd n k is L st C ws = some (r, C2, ws2) → cx_in ws C.length → C.length ≤ 1000 → mm_ex cd Lx n k is L st (cxh C ws Ib) = some (r, cxh C2 ws2 Ib) ∧ cx_in ws2 C2.length ∧ C2.length ≤ 1000 := by
  intro n
  induction n with
  | zero => intro k is L st C C2 ws ws2 r h; cases h
  | succ n ih =>
    intro k is L st C C2 ws ws2 r h hi hc
    unfold cx_ex at h
    unfold mm_ex
    split at h
    · cases h
    · split at h
      · split at h
        · rename_i hs
          obtain ⟨q1, q2, q3⟩ := cx_stp_ok (Lx := Lx) (Ib := Ib) hs hi hc
          obtain ⟨p1, p2⟩ := ih _ _ _ _ _ _ _ _ _ h q2 q3
          refine ⟨?_, p2⟩
          (try simp only); rw [q1]; exact p1
        · rename_i hs
          obtain ⟨q1, q2, q3⟩ := cx_stp_ok (Lx := Lx) (Ib := Ib) hs hi hc
          obtain ⟨p1, p2⟩ := ih _ _ _ _ _ _ _ _ _ h q2 q3
          refine ⟨?_, p2⟩
          (try simp only); rw [q1]; exact p1
        · cases h
      · split at h
        · rename_i hk
          split at h
          · rename_i hs
            obtain ⟨q1, q2, q3⟩ := ih _ _ _ _ _ _ _ _ _ hs hi hc
            obtain ⟨p1, p2⟩ := ih _ _ _ _ _ _ _ _ _ h q2 q3
            refine ⟨?_, p2⟩
            (try simp only); rw [if_pos (by exact hk), q1]; exact p1
          · cases h
        · cases h
      · split at h
        · rename_i r2 hr
          cases h
          refine ⟨?_, hi, hc⟩
          (try simp only)
          unfold cx_rt at hr
          revert hr
          unfold mm_rt
          split <;> intro hr <;> simp at hr <;> (try subst hr) <;> (try rfl)
        · cases h
      · cases h
