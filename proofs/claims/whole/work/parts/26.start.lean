/-! the two constructors, run by the kernel; the law up to its loop -/
def cx_w1 : cx_W := [(0, 9, 1), (73, 4, -1), (7, 4, -1), (1, 8, -1), (3, 4, -1)]
def cx_w2 : cx_W := (157, 29, -1) :: cx_w1
noncomputable def cx_k1 : Bool := match cx_ex cd 3000 10 (cd 10) [some (.ref 0)] [] [(8, 10, List.replicate 10 none)] [] with
  | some (none, C, ws) => decide (C = S0.take 157) && decide (ws = cx_w1)
  | _ => false
noncomputable def cx_k2 : Bool := match cx_ex cd 3000 11 (cd 11) [some (.ref 157)] [] (S0.take 157 ++ [(9, 39, List.replicate 39 none)]) cx_w1 with
  | some (none, C, ws) => decide (C = S0) && decide (ws = cx_w2)
  | _ => false
theorem cx_b1 : cx_k1 = true := by decide +kernel
theorem cx_b2 : cx_k2 = true := by decide +kernel
theorem cx_r1 : cx_ex cd 3000 10 (cd 10) [some (.ref 0)] [] [(8, 10, List.replicate 10 none)] [] = some (none, S0.take 157, cx_w1) := by
  have h := cx_b1
  unfold cx_k1 at h
  split at h
  · rename_i C ws he
    simp only [Bool.and_eq_true, decide_eq_true_eq] at h
    rw [he, h.1, h.2]
  · cases h
theorem cx_r2 : cx_ex cd 3000 11 (cd 11) [some (.ref 157)] [] (S0.take 157 ++ [(9, 39, List.replicate 39 none)]) cx_w1 = some (none, S0, cx_w2) := by
  have h := cx_b2
  unfold cx_k2 at h
  split at h
  · rename_i C ws he
    simp only [Bool.and_eq_true, decide_eq_true_eq] at h
    rw [he, h.1, h.2]
  · cases h
theorem mx_st {cd : Nat → List mm_E} {Lx n k pc len : Nat} {ins : Instr} {ax : List Nat} {is : List mm_E} {L L2 : mm_L} {st st2 : List Value} {h h2 : mm_H} {r : Option Value × mm_H} (hs : mm_stp Lx ins ax L st h = some (none, L2, st2, h2)) (hr : mm_ex cd Lx n k is L2 st2 h2 = some r) : mm_ex cd Lx (n + 1) k ((pc, ins, len, 0, ax) :: is) L st h = some r := by
  unfold mm_ex
  try simp only
  rw [hs]
  exact hr
theorem mx_call {cd : Nat → List mm_E} {Lx n k pc len : Nat} {ins : Instr} {ax : List Nat} {is : List mm_E} {L : mm_L} {st : List Value} {h h2 : mm_H} {v : Option Value} {r : Option Value × mm_H} (hc : mm_cok (ax.getD 1 0) (ax.getD 2 0) (ax.getD 3 0) st h = true) (h1 : mm_ex cd Lx n (ax.getD 0 0) (cd (ax.getD 0 0)) (mm_ar (st.take (ax.getD 1 0)).reverse) [] h = some (v, h2)) (hr : mm_ex cd Lx n k is L (v.toList ++ st.drop (ax.getD 1 0)) h2 = some r) : mm_ex cd Lx (n + 1) k ((pc, ins, len, 1, ax) :: is) L st h = some r := by
  unfold mm_ex
  try simp only
  rw [if_pos hc, h1]
  exact hr
theorem cok157 (C : List mm_C) (f : Nat → Nat → Int32) (g : Nat → Nat → Int64) (hx : C[157]? = some (9, 39, List.replicate 39 none)) : mm_cok 1 10 1 [.ref 157, .ref 157] (C, f, g) = true := by
  simp [mm_cok, hx, mm_tag, mm_ar]
/-- the numbers behind the constructors -/
def g0 (Ib : Nat → Nat → Int32) : M2 := (cxI cx_w2 Ib, cxJ)
theorem law_pre {Lx : Nat} {Ib : Nat → Nat → Int32} {r : Option Value × mm_H} {n : Nat} (h : mm_ex cd Lx n 303 (cd_303.drop 10) [some (.ref 1001), some (.ref 0), some (.ref 157), some (.int (0 : Int32))] [] (hp (g0 Ib)) = some r) : mm_ex cd Lx (n + 3010) 303 (cd 303) [some (.ref 1001)] [] ([], cxI [] Ib, cxJ) = some r := by
  have hn := mm_ex_le2 h (show n ≤ n + 3000 by omega)
  have e1 := (cx_ex_ok (Lx := Lx) (Ib := Ib) _ _ _ _ _ _ _ _ _ _ cx_r1 (fun q hq => by cases hq) (by decide)).1
  have e2 := (cx_ex_ok (Lx := Lx) (Ib := Ib) _ _ _ _ _ _ _ _ _ _ cx_r2 (by
    intro q hq
    have hl : (S0.take 157 ++ [(9, 39, List.replicate 39 none)]).length = 158 := by decide +kernel
    rw [hl]
    simp only [cx_w1, List.mem_cons, List.not_mem_nil, or_false] at hq
    rcases hq with h | h | h | h | h <;> rw [h] <;> decide) (by decide +kernel)).1
  have d0 : cd 303 = (0, .new 7, 3, 0, [8, 10, 105, 106, 89]) :: cd_303.drop 1 := by rw [cdE_303]; exact ev_dr (i := 0) rfl
  have d1 : cd_303.drop 1 = (3, .dup, 1, 0, []) :: cd_303.drop 2 := ev_dr (i := 1) rfl
  have d2 : cd_303.drop 2 = (4, .invokespecial 9, 3, 1, [10, 1, 9, 1, 109, 89, 107, 108, 0, 0]) :: cd_303.drop 3 := ev_dr (i := 2) rfl
  have d3 : cd_303.drop 3 = (7, .astore_n 1, 1, 0, []) :: cd_303.drop 4 := ev_dr (i := 3) rfl
  have d4 : cd_303.drop 4 = (8, .new 10, 3, 0, [9, 39, 1214, 1215, 99]) :: cd_303.drop 5 := ev_dr (i := 4) rfl
  have d5 : cd_303.drop 5 = (11, .dup, 1, 0, []) :: cd_303.drop 6 := ev_dr (i := 5) rfl
  have d6 : cd_303.drop 6 = (12, .invokespecial 12, 3, 1, [11, 1, 10, 1, 1218, 99, 1216, 1217, 0, 0]) :: cd_303.drop 7 := ev_dr (i := 6) rfl
  have d7 : cd_303.drop 7 = (15, .astore_n 2, 1, 0, []) :: cd_303.drop 8 := ev_dr (i := 7) rfl
  have d8 : cd_303.drop 8 = (16, .iconst 0, 1, 0, [0]) :: cd_303.drop 9 := ev_dr (i := 8) rfl
  have d9 : cd_303.drop 9 = (17, .istore_n 3, 1, 0, []) :: cd_303.drop 10 := ev_dr (i := 9) rfl
  have g1 : mm_grow ([], cxI [] Ib, cxJ) (8, 10, List.replicate 10 none) = cxh [(8, 10, List.replicate 10 none)] [] Ib := cx_grow (C := []) (ws := []) (fun q hq => by cases hq) (by decide)
  have hl7 : (S0.take 157).length = 157 := by decide +kernel
  have g2 : mm_grow (cxh (S0.take 157) cx_w1 Ib) (9, 39, List.replicate 39 none) = cxh (S0.take 157 ++ [(9, 39, List.replicate 39 none)]) cx_w1 Ib := cx_grow (by
    intro q hq
    rw [hl7]
    simp only [cx_w1, List.mem_cons, List.not_mem_nil, or_false] at hq
    rcases hq with h | h | h | h | h <;> rw [h] <;> decide) (by rw [hl7]; decide)
  rw [d0]
  refine mx_st (n := n + 3009) (L2 := [some (.ref 1001)]) (st2 := [.ref 0]) (h2 := cxh [(8, 10, List.replicate 10 none)] [] Ib) (by rw [← g1]; rfl) ?_
  rw [d1]
  refine mx_st (n := n + 3008) (L2 := [some (.ref 1001)]) (st2 := [.ref 0, .ref 0]) (h2 := cxh [(8, 10, List.replicate 10 none)] [] Ib) rfl ?_
  rw [d2]
  refine mx_call (n := n + 3007) (v := none) (h2 := cxh (S0.take 157) cx_w1 Ib) rfl (mm_ex_le2 e1 (by omega)) ?_
  rw [d3]
  refine mx_st (n := n + 3006) (L2 := [some (.ref 1001), some (.ref 0)]) (st2 := []) (h2 := cxh (S0.take 157) cx_w1 Ib) rfl ?_
  rw [d4]
  refine mx_st (n := n + 3005) (L2 := [some (.ref 1001), some (.ref 0)]) (st2 := [.ref 157]) (h2 := cxh (S0.take 157 ++ [(9, 39, List.replicate 39 none)]) cx_w1 Ib) (by
    rw [← g2]
    simp only [mm_stp, mm_nw]
    rw [if_pos (by rw [hl7]; decide), hl7]
    rfl) ?_
  rw [d5]
  refine mx_st (n := n + 3004) (L2 := [some (.ref 1001), some (.ref 0)]) (st2 := [.ref 157, .ref 157]) (h2 := cxh (S0.take 157 ++ [(9, 39, List.replicate 39 none)]) cx_w1 Ib) rfl ?_
  rw [d6]
  refine mx_call (n := n + 3003) (v := none) (h2 := cxh S0 cx_w2 Ib) (by
    have hx : (S0.take 157 ++ [(9, 39, List.replicate 39 none)])[157]? = some (9, 39, List.replicate 39 none) := by
      rw [List.getElem?_append_right (by rw [hl7]; exact Nat.le_refl _), hl7]; rfl
    exact cok157 _ _ _ hx) (mm_ex_le2 e2 (by omega)) ?_
  rw [d7]
  refine mx_st (n := n + 3002) (L2 := [some (.ref 1001), some (.ref 0), some (.ref 157)]) (st2 := []) (h2 := cxh S0 cx_w2 Ib) rfl ?_
  rw [d8]
  refine mx_st (n := n + 3001) (L2 := [some (.ref 1001), some (.ref 0), some (.ref 157)]) (st2 := [.int (0 : Int32)]) (h2 := cxh S0 cx_w2 Ib) rfl ?_
  rw [d9]
  exact mx_st (n := n + 3000) (L2 := [some (.ref 1001), some (.ref 0), some (.ref 157), some (.int (0 : Int32))]) (st2 := []) (h2 := cxh S0 cx_w2 Ib) rfl hn
