def b_Mo_laysWishes_24 (v1 : Int32) (v2 : Int32) (g : M2) : Option ((Int32 × M2) ⊕ M2) := (if (g.1 160 13) ≤ v2 then some (.inr g) else (if inb ((14 : Int32) + v2) 19 then (if (g.1 160 ((14 : Int32) + v2).toNatClampNeg) = v1 then some (.inl ((v2 + (1 : Int32)), g)) else (if inb ((14 : Int32) + v2) 19 then (if inb (g.1 157 10) 5 then (bd (uI g 163 (g.1 157 10).toNatClampNeg (g.1 160 ((14 : Int32) + v2).toNatClampNeg)) fun g9 => (bd (uI g9 157 10 ((g9.1 157 10) + (1 : Int32))) fun g10 => some (.inl ((v2 + (1 : Int32)), g10)))) else none) else none)) else none))
theorem tb_Mo_laysWishes_24 {Lx : Nat} (v1 : Int32)  (v2 : Int32) (g : M2) {b : (Int32 × M2) ⊕ M2} {o : Option Value × M2} (h : b_Mo_laysWishes_24 v1 v2 g = some b) (hb : Sum.elim (fun s => Ev Lx 103 cd_103 24 [some (.ref 157), some (.int v1), some (.int s.1)] [] s.2 o) (fun e => Ev Lx 103 cd_103 58 [] [] e o) b) : Ev Lx 103 cd_103 24 [some (.ref 157), some (.int v1), some (.int v2)] [] g o := by
  unfold b_Mo_laysWishes_24 at h
  refine ev_rn (n := 4) (i2 := 28) (L2 := [some (.ref 157), some (.int v1), some (.int v2)]) (st2 := [.int (13 : Int32), .ref 160, .int v2]) (g2 := g) cdE_103 rfl ?_
  refine ev_iaload (v := .int (g.1 160 13)) rfl (kd_of (show S0[160]? = some (100, 19, List.replicate 19 none) from rfl)) (by decide) ⟨by decide, by decide⟩ rfl ?_
  by_cases hc5 : (g.1 160 13) ≤ v2
  · rw [if_pos hc5] at h
    refine ev_ift cdE_103 rfl (cn_t hc5) ?_
    cases h
    exact ev_wk (L := []) hb trivial
  · rw [if_neg hc5] at h
    refine ev_iff rfl (cn_f hc5) ?_
    refine ev_rn (n := 5) (i2 := 35) (L2 := [some (.ref 157), some (.int v1), some (.int v2)]) (st2 := [.int ((14 : Int32) + v2), .ref 160]) (g2 := g) cdE_103 rfl ?_
    by_cases hi6 : inb ((14 : Int32) + v2) 19
    · rw [if_pos hi6] at h
      refine ev_iaload (v := .int (g.1 160 ((14 : Int32) + v2).toNatClampNeg)) rfl (kd_of (show S0[160]? = some (100, 19, List.replicate 19 none) from rfl)) (by decide) hi6 rfl ?_
      refine ev_rn (n := 1) (i2 := 37) (L2 := [some (.ref 157), some (.int v1), some (.int v2)]) (st2 := [.int v1, .int (g.1 160 ((14 : Int32) + v2).toNatClampNeg)]) (g2 := g) cdE_103 rfl ?_
      by_cases hc7 : (g.1 160 ((14 : Int32) + v2).toNatClampNeg) = v1
      · rw [if_pos hc7] at h
        refine ev_iff rfl (cn_f (fun q => q hc7)) ?_
        refine ev_rn (n := 3) (i2 := 24) (L2 := [some (.ref 157), some (.int v1), some (.int (v2 + (1 : Int32)))]) (st2 := []) (g2 := g) cdE_103 rfl ?_
        cases h
        exact ev_wk (L := [some (.ref 157), some (.int v1), some (.int (v2 + (1 : Int32)))]) hb ⟨rfl, ⟨rfl, ⟨rfl, trivial⟩⟩⟩
      · rw [if_neg hc7] at h
        refine ev_ift cdE_103 rfl (cn_t hc7) ?_
        refine ev_rn (n := 9) (i2 := 48) (L2 := [some (.ref 157), some (.int v1), some (.int v2)]) (st2 := [.int ((14 : Int32) + v2), .ref 160, .int (g.1 157 10), .ref 163]) (g2 := g) cdE_103 rfl ?_
        by_cases hi8 : inb ((14 : Int32) + v2) 19
        · rw [if_pos hi8] at h
          refine ev_iaload (v := .int (g.1 160 ((14 : Int32) + v2).toNatClampNeg)) rfl (kd_of (show S0[160]? = some (100, 19, List.replicate 19 none) from rfl)) (by decide) hi8 rfl ?_
          by_cases hi11 : inb (g.1 157 10) 5
          · rw [if_pos hi11] at h
            refine bd_elim h (fun g9 hg9 h => ?_)
            refine ev_iastore (g2 := g9) rfl (show S0[163]? = some (100, 5, List.replicate 5 none) from rfl) (by decide) hi11 (by rw [hg9] <;> rfl) ?_
            refine ev_rn (n := 5) (i2 := 55) (L2 := [some (.ref 157), some (.int v1), some (.int v2)]) (st2 := [.int ((g9.1 157 10) + (1 : Int32)), .ref 157]) (g2 := g9) cdE_103 rfl ?_
            refine bd_elim h (fun g10 hg10 h => ?_)
            refine ev_pf (g2 := g10) rfl (rfl : S0[157]? = some _) (by decide) (by rw [hg10] <;> rfl) ?_
            refine ev_rn (n := 2) (i2 := 24) (L2 := [some (.ref 157), some (.int v1), some (.int (v2 + (1 : Int32)))]) (st2 := []) (g2 := g10) cdE_103 rfl ?_
            cases h
            exact ev_wk (L := [some (.ref 157), some (.int v1), some (.int (v2 + (1 : Int32)))]) hb ⟨rfl, ⟨rfl, ⟨rfl, trivial⟩⟩⟩
          · rw [if_neg hi11] at h
            cases h
        · rw [if_neg hi8] at h
          cases h
    · rw [if_neg hi6] at h
      cases h
def j_Mo_laysWishes_22 (v1 : Int32) (g : M2) : Option (M2) := ((lp (fun s => b_Mo_laysWishes_24 v1 s.1 s.2) 5000 ((0 : Int32), g)).bind fun e12 => some e12)
theorem tj_Mo_laysWishes_22 {Lx : Nat}  (v1 : Int32)  (g : M2) {b : M2} (h : j_Mo_laysWishes_22 v1 g = some b) : Ev Lx 103 cd_103 22 [some (.ref 157), some (.int v1)] [] g (none, b) := by
  unfold j_Mo_laysWishes_22 at h
  refine ev_rn (n := 2) (i2 := 24) (L2 := [some (.ref 157), some (.int v1), some (.int (0 : Int32))]) (st2 := []) (g2 := g) cdE_103 rfl ?_
  obtain ⟨e12, he12, h⟩ := Option.bind_eq_some_iff.mp h
  have hX13 : Ev Lx 103 cd_103 58 [] [] e12 (none, b) := by
    cases h
    exact ev_ret rfl rfl
  exact ev_wk (L := [some (.ref 157), some (.int v1), some (.int (0 : Int32))]) (lp_ind (P := (fun (s : (Int32 × M2)) => Ev Lx 103 cd_103 24 [some (.ref 157), some (.int v1), some (.int s.1)] [] s.2 (none, b))) (fun s s2 hs hP => tb_Mo_laysWishes_24 v1  s.1 s.2 (b := .inl s2) hs hP) (fun s hs => tb_Mo_laysWishes_24 v1  s.1 s.2 (b := .inr e12) hs hX13) _ _ he12) ⟨rfl, ⟨rfl, ⟨rfl, trivial⟩⟩⟩
def j_Mo_laysWishes_11 (v1 : Int32) (g : M2) : Option (M2) := (if (g.1 157 11) = 0 then (j_Mo_laysWishes_22 v1 g) else (bd (uI g 163 0 v1) fun g14 => (bd (uI g14 157 10 (1 : Int32)) fun g15 => (j_Mo_laysWishes_22 v1 g15))))
theorem tj_Mo_laysWishes_11 {Lx : Nat}  (v1 : Int32)  (g : M2) {b : M2} (h : j_Mo_laysWishes_11 v1 g = some b) : Ev Lx 103 cd_103 11 [some (.ref 157), some (.int v1)] [] g (none, b) := by
  unfold j_Mo_laysWishes_11 at h
  refine ev_rn (n := 2) (i2 := 13) (L2 := [some (.ref 157), some (.int v1)]) (st2 := [.int (g.1 157 11)]) (g2 := g) cdE_103 rfl ?_
  by_cases hc4 : (g.1 157 11) = 0
  · rw [if_pos hc4] at h
    refine ev_zft cdE_103 rfl (cn_t hc4) ?_
    exact ev_wk (L := [some (.ref 157), some (.int v1)]) (tj_Mo_laysWishes_22  v1  g h) ⟨rfl, ⟨rfl, trivial⟩⟩
  · rw [if_neg hc4] at h
    refine ev_zff rfl (cn_f hc4) ?_
    refine ev_rn (n := 4) (i2 := 18) (L2 := [some (.ref 157), some (.int v1)]) (st2 := [.int v1, .int (0 : Int32), .ref 163]) (g2 := g) cdE_103 rfl ?_
    refine bd_elim h (fun g14 hg14 h => ?_)
    refine ev_iastore (g2 := g14) rfl (show S0[163]? = some (100, 5, List.replicate 5 none) from rfl) (by decide) ⟨by decide, by decide⟩ (by rw [hg14] <;> rfl) ?_
    refine ev_rn (n := 2) (i2 := 21) (L2 := [some (.ref 157), some (.int v1)]) (st2 := [.int (1 : Int32), .ref 157]) (g2 := g14) cdE_103 rfl ?_
    refine bd_elim h (fun g15 hg15 h => ?_)
    refine ev_pf (g2 := g15) rfl (rfl : S0[157]? = some _) (by decide) (by rw [hg15] <;> rfl) ?_
    exact ev_wk (L := [some (.ref 157), some (.int v1)]) (tj_Mo_laysWishes_22  v1  g15 h) ⟨rfl, ⟨rfl, trivial⟩⟩
def f_Mo_laysWishes (p0 : Int32) (g : M2) : Option (M2) := (bd (uI g 157 10 (0 : Int32)) fun g1 => (if p0 = (-1 : Int32) then (bd (uI g1 157 11 (0 : Int32)) fun g3 => (j_Mo_laysWishes_11 p0 g3)) else (bd (uI g1 157 11 (1 : Int32)) fun g16 => (j_Mo_laysWishes_11 p0 g16))))
theorem e_Mo_laysWishes {Lx : Nat} (p0 : Int32)  (g : M2) {b : M2} (h : f_Mo_laysWishes p0 g = some b) : Ev Lx 103 cd_103 0 [some (.ref 157), some (.int p0)] [] g (none, b) := by
  unfold f_Mo_laysWishes at h
  refine ev_rn (n := 2) (i2 := 2) (L2 := [some (.ref 157), some (.int p0)]) (st2 := [.int (0 : Int32), .ref 157]) (g2 := g) cdE_103 rfl ?_
  refine bd_elim h (fun g1 hg1 h => ?_)
  refine ev_pf (g2 := g1) rfl (rfl : S0[157]? = some _) (by decide) (by rw [hg1] <;> rfl) ?_
  refine ev_rn (n := 3) (i2 := 6) (L2 := [some (.ref 157), some (.int p0)]) (st2 := [.int (-1 : Int32), .int p0, .ref 157]) (g2 := g1) cdE_103 rfl ?_
  by_cases hc2 : p0 = (-1 : Int32)
  · rw [if_pos hc2] at h
    refine ev_ift cdE_103 rfl (cn_t hc2) ?_
    refine ev_rn (n := 1) (i2 := 10) (L2 := [some (.ref 157), some (.int p0)]) (st2 := [.int (0 : Int32), .ref 157]) (g2 := g1) cdE_103 rfl ?_
    refine bd_elim h (fun g3 hg3 h => ?_)
    refine ev_pf (g2 := g3) rfl (rfl : S0[157]? = some _) (by decide) (by rw [hg3] <;> rfl) ?_
    exact ev_wk (L := [some (.ref 157), some (.int p0)]) (tj_Mo_laysWishes_11  p0  g3 h) ⟨rfl, ⟨rfl, trivial⟩⟩
  · rw [if_neg hc2] at h
    refine ev_iff rfl (cn_f hc2) ?_
    refine ev_rn (n := 2) (i2 := 10) (L2 := [some (.ref 157), some (.int p0)]) (st2 := [.int (1 : Int32), .ref 157]) (g2 := g1) cdE_103 rfl ?_
    refine bd_elim h (fun g16 hg16 h => ?_)
    refine ev_pf (g2 := g16) rfl (rfl : S0[157]? = some _) (by decide) (by rw [hg16] <;> rfl) ?_
    exact ev_wk (L := [some (.ref 157), some (.int p0)]) (tj_Mo_laysWishes_11  p0  g16 h) ⟨rfl, ⟨rfl, trivial⟩⟩
def b_Mo_clears_2 (v1 : Int32) (v2 : Int32) (g : M2) : Option ((Int32 × M2) ⊕ M2) := (if (4 : Int32) ≤ v2 then some (.inr g) else (if inb (((4 : Int32) * v1) + v2) 352 then (bd (uJ g 158 (((4 : Int32) * v1) + v2).toNatClampNeg (0 : Int64)) fun g2 => some (.inl ((v2 + (1 : Int32)), g2))) else none))
theorem tb_Mo_clears_2 {Lx : Nat} (v1 : Int32)  (v2 : Int32) (g : M2) {b : (Int32 × M2) ⊕ M2} {o : Option Value × M2} (h : b_Mo_clears_2 v1 v2 g = some b) (hb : Sum.elim (fun s => Ev Lx 104 cd_104 2 [some (.ref 157), some (.int v1), some (.int s.1)] [] s.2 o) (fun e => Ev Lx 104 cd_104 16 [] [] e o) b) : Ev Lx 104 cd_104 2 [some (.ref 157), some (.int v1), some (.int v2)] [] g o := by
  unfold b_Mo_clears_2 at h
  refine ev_rn (n := 2) (i2 := 4) (L2 := [some (.ref 157), some (.int v1), some (.int v2)]) (st2 := [.int (4 : Int32), .int v2]) (g2 := g) cdE_104 rfl ?_
  by_cases hc1 : (4 : Int32) ≤ v2
  · rw [if_pos hc1] at h
    refine ev_ift cdE_104 rfl (cn_t hc1) ?_
    cases h
    exact ev_wk (L := []) hb trivial
  · rw [if_neg hc1] at h
    refine ev_iff rfl (cn_f hc1) ?_
    refine ev_rn (n := 8) (i2 := 13) (L2 := [some (.ref 157), some (.int v1), some (.int v2)]) (st2 := [.long (0 : Int64), .int (((4 : Int32) * v1) + v2), .ref 158]) (g2 := g) cdE_104 rfl ?_
    by_cases hi3 : inb (((4 : Int32) * v1) + v2) 352
    · rw [if_pos hi3] at h
      refine bd_elim h (fun g2 hg2 h => ?_)
      refine ev_lastore (g2 := g2) rfl (show S0[158]? = some (101, 352, List.replicate 352 none) from rfl) (by decide) hi3 (by rw [hg2] <;> rfl) ?_
      refine ev_rn (n := 2) (i2 := 2) (L2 := [some (.ref 157), some (.int v1), some (.int (v2 + (1 : Int32)))]) (st2 := []) (g2 := g2) cdE_104 rfl ?_
      cases h
      exact ev_wk (L := [some (.ref 157), some (.int v1), some (.int (v2 + (1 : Int32)))]) hb ⟨rfl, ⟨rfl, ⟨rfl, trivial⟩⟩⟩
    · rw [if_neg hi3] at h
      cases h
def f_Mo_clears (p0 : Int32) (g : M2) : Option (M2) := ((lp (fun s => b_Mo_clears_2 p0 s.1 s.2) 5000 ((0 : Int32), g)).bind fun e4 => some e4)
theorem e_Mo_clears {Lx : Nat} (p0 : Int32)  (g : M2) {b : M2} (h : f_Mo_clears p0 g = some b) : Ev Lx 104 cd_104 0 [some (.ref 157), some (.int p0)] [] g (none, b) := by
  unfold f_Mo_clears at h
  refine ev_rn (n := 2) (i2 := 2) (L2 := [some (.ref 157), some (.int p0), some (.int (0 : Int32))]) (st2 := []) (g2 := g) cdE_104 rfl ?_
  obtain ⟨e4, he4, h⟩ := Option.bind_eq_some_iff.mp h
  have hX5 : Ev Lx 104 cd_104 16 [] [] e4 (none, b) := by
    cases h
    exact ev_ret rfl rfl
  exact ev_wk (L := [some (.ref 157), some (.int p0), some (.int (0 : Int32))]) (lp_ind (P := (fun (s : (Int32 × M2)) => Ev Lx 104 cd_104 2 [some (.ref 157), some (.int p0), some (.int s.1)] [] s.2 (none, b))) (fun s s2 hs hP => tb_Mo_clears_2 p0  s.1 s.2 (b := .inl s2) hs hP) (fun s hs => tb_Mo_clears_2 p0  s.1 s.2 (b := .inr e4) hs hX5) _ _ he4) ⟨rfl, ⟨rfl, ⟨rfl, trivial⟩⟩⟩
def f_Ma_floorMod (p0 : Int32) (p1 : Int32) (g : M2) : Option (Int32) := (if p1 = 0 then none else (if 0 ≤ (p0 ^^^ p1) then some (p0 - p0 / p1 * p1) else (if (p0 - p0 / p1 * p1) = 0 then some (p0 - p0 / p1 * p1) else some ((p0 - p0 / p1 * p1) + p1))))
theorem e_Ma_floorMod {Lx : Nat} (p0 : Int32) (p1 : Int32)  (g : M2) {b : Int32} (h : f_Ma_floorMod p0 p1 g = some b) : Ev Lx 105 cd_105 0 [some (.int p0), some (.int p1)] [] g (some (.int b), g) := by
  unfold f_Ma_floorMod at h
  refine ev_rn (n := 2) (i2 := 2) (L2 := [some (.int p0), some (.int p1)]) (st2 := [.int p1, .int p0]) (g2 := g) cdE_105 rfl ?_
  by_cases hd3 : p1 = 0
  · rw [if_pos hd3] at h
    cases h
  · rw [if_neg hd3] at h
    refine ev_irem rfl hd3 ?_
    refine ev_rn (n := 4) (i2 := 7) (L2 := [some (.int p0), some (.int p1), some (.int (p0 - p0 / p1 * p1))]) (st2 := [.int (p0 ^^^ p1)]) (g2 := g) cdE_105 rfl ?_
    by_cases hc1 : 0 ≤ (p0 ^^^ p1)
    · rw [if_pos hc1] at h
      refine ev_zft cdE_105 rfl (cn_t hc1) ?_
      refine ev_rn (n := 1) (i2 := 15) (L2 := [some (.int p0), some (.int p1), some (.int (p0 - p0 / p1 * p1))]) (st2 := [.int (p0 - p0 / p1 * p1)]) (g2 := g) cdE_105 rfl ?_
      cases h
      exact ev_ret rfl rfl
    · rw [if_neg hc1] at h
      refine ev_zff rfl (cn_f hc1) ?_
      refine ev_rn (n := 1) (i2 := 9) (L2 := [some (.int p0), some (.int p1), some (.int (p0 - p0 / p1 * p1))]) (st2 := [.int (p0 - p0 / p1 * p1)]) (g2 := g) cdE_105 rfl ?_
      by_cases hc2 : (p0 - p0 / p1 * p1) = 0
      · rw [if_pos hc2] at h
        refine ev_zft cdE_105 rfl (cn_t hc2) ?_
        refine ev_rn (n := 1) (i2 := 15) (L2 := [some (.int p0), some (.int p1), some (.int (p0 - p0 / p1 * p1))]) (st2 := [.int (p0 - p0 / p1 * p1)]) (g2 := g) cdE_105 rfl ?_
        cases h
        exact ev_ret rfl rfl
      · rw [if_neg hc2] at h
        refine ev_zff rfl (cn_f hc2) ?_
        refine ev_rn (n := 3) (i2 := 13) (L2 := [some (.int p0), some (.int p1), some (.int (p0 - p0 / p1 * p1))]) (st2 := [.int ((p0 - p0 / p1 * p1) + p1)]) (g2 := g) cdE_105 rfl ?_
        cases h
        exact ev_ret rfl rfl
def b_Mo_addsPower_14 (v1 : Int32) (v5 : Int32) (v6 : Int64) (v8 : Int32) (g : M2) : Option ((Int32 × M2) ⊕ M2) := (if (4 : Int32) ≤ v8 then some (.inr g) else (if inb (((4 : Int32) * v1) + v8) 352 then (if inb (((4 : Int32) * (v5 - v5 / (6 : Int32) * (6 : Int32))) + v8) 24 then (if inb (((4 : Int32) * v1) + v8) 352 then (bd (uJ g 158 (((4 : Int32) * v1) + v8).toNatClampNeg ((g.2 158 (((4 : Int32) * v1) + v8).toNatClampNeg) + (v6 * (g.1 1002 (((4 : Int32) * (v5 - v5 / (6 : Int32) * (6 : Int32))) + v8).toNatClampNeg).toInt64))) fun g6 => some (.inl ((v8 + (1 : Int32)), g6))) else none) else none) else none))
theorem tb_Mo_addsPower_14 {Lx : Nat} (v1 : Int32) (v5 : Int32) (v6 : Int64)  (v8 : Int32) (g : M2) {b : (Int32 × M2) ⊕ M2} {o : Option Value × M2} (h : b_Mo_addsPower_14 v1 v5 v6 v8 g = some b) (hb : Sum.elim (fun s => Ev Lx 106 cd_106 14 [some (.ref 157), some (.int v1), none, none, none, some (.int v5), some (.long v6), none, some (.int s.1)] [] s.2 o) (fun e => Ev Lx 106 cd_106 42 [] [] e o) b) : Ev Lx 106 cd_106 14 [some (.ref 157), some (.int v1), none, none, none, some (.int v5), some (.long v6), none, some (.int v8)] [] g o := by
  unfold b_Mo_addsPower_14 at h
  refine ev_rn (n := 2) (i2 := 16) (L2 := [some (.ref 157), some (.int v1), none, none, none, some (.int v5), some (.long v6), none, some (.int v8)]) (st2 := [.int (4 : Int32), .int v8]) (g2 := g) cdE_106 rfl ?_
  by_cases hc3 : (4 : Int32) ≤ v8
  · rw [if_pos hc3] at h
    refine ev_ift cdE_106 rfl (cn_t hc3) ?_
    cases h
    exact ev_wk (L := []) hb trivial
  · rw [if_neg hc3] at h
    refine ev_iff rfl (cn_f hc3) ?_
    refine ev_rn (n := 8) (i2 := 25) (L2 := [some (.ref 157), some (.int v1), none, none, none, some (.int v5), some (.long v6), none, some (.int v8)]) (st2 := [.int (((4 : Int32) * v1) + v8), .ref 158, .int (((4 : Int32) * v1) + v8), .ref 158]) (g2 := g) cdE_106 rfl ?_
    by_cases hi4 : inb (((4 : Int32) * v1) + v8) 352
    · rw [if_pos hi4] at h
      refine ev_laload (v := .long (g.2 158 (((4 : Int32) * v1) + v8).toNatClampNeg)) rfl (kd_of (show S0[158]? = some (101, 352, List.replicate 352 none) from rfl)) (by decide) hi4 rfl ?_
      refine ev_rn (n := 5) (i2 := 31) (L2 := [some (.ref 157), some (.int v1), none, none, none, some (.int v5), some (.long v6), none, some (.int v8)]) (st2 := [.int (6 : Int32), .int v5, .int (4 : Int32), .ref 1002, .long v6, .long (g.2 158 (((4 : Int32) * v1) + v8).toNatClampNeg), .int (((4 : Int32) * v1) + v8), .ref 158]) (g2 := g) cdE_106 rfl ?_
      refine ev_irem rfl (by decide) ?_
      refine ev_rn (n := 3) (i2 := 35) (L2 := [some (.ref 157), some (.int v1), none, none, none, some (.int v5), some (.long v6), none, some (.int v8)]) (st2 := [.int (((4 : Int32) * (v5 - v5 / (6 : Int32) * (6 : Int32))) + v8), .ref 1002, .long v6, .long (g.2 158 (((4 : Int32) * v1) + v8).toNatClampNeg), .int (((4 : Int32) * v1) + v8), .ref 158]) (g2 := g) cdE_106 rfl ?_
      by_cases hi5 : inb (((4 : Int32) * (v5 - v5 / (6 : Int32) * (6 : Int32))) + v8) 24
      · rw [if_pos hi5] at h
        refine ev_iaload (v := .int (g.1 1002 (((4 : Int32) * (v5 - v5 / (6 : Int32) * (6 : Int32))) + v8).toNatClampNeg)) rfl rfl (by decide) hi5 rfl ?_
        refine ev_rn (n := 3) (i2 := 39) (L2 := [some (.ref 157), some (.int v1), none, none, none, some (.int v5), some (.long v6), none, some (.int v8)]) (st2 := [.long ((g.2 158 (((4 : Int32) * v1) + v8).toNatClampNeg) + (v6 * (g.1 1002 (((4 : Int32) * (v5 - v5 / (6 : Int32) * (6 : Int32))) + v8).toNatClampNeg).toInt64)), .int (((4 : Int32) * v1) + v8), .ref 158]) (g2 := g) cdE_106 rfl ?_
        by_cases hi7 : inb (((4 : Int32) * v1) + v8) 352
        · rw [if_pos hi7] at h
          refine bd_elim h (fun g6 hg6 h => ?_)
          refine ev_lastore (g2 := g6) rfl (show S0[158]? = some (101, 352, List.replicate 352 none) from rfl) (by decide) hi7 (by rw [hg6] <;> rfl) ?_
          refine ev_rn (n := 2) (i2 := 14) (L2 := [some (.ref 157), some (.int v1), none, none, none, some (.int v5), some (.long v6), none, some (.int (v8 + (1 : Int32)))]) (st2 := []) (g2 := g6) cdE_106 rfl ?_
          cases h
          exact ev_wk (L := [some (.ref 157), some (.int v1), none, none, none, some (.int v5), some (.long v6), none, some (.int (v8 + (1 : Int32)))]) hb ⟨rfl, ⟨rfl, ⟨rfl, ⟨rfl, ⟨rfl, trivial⟩⟩⟩⟩⟩
        · rw [if_neg hi7] at h
          cases h
      · rw [if_neg hi5] at h
        cases h
    · rw [if_neg hi4] at h
      cases h
def j_Mo_addsPower_12 (v1 : Int32) (v5 : Int32) (v6 : Int64) (g : M2) : Option (M2) := ((lp (fun s => b_Mo_addsPower_14 v1 v5 v6 s.1 s.2) 5000 ((0 : Int32), g)).bind fun e8 => some e8)
theorem tj_Mo_addsPower_12 {Lx : Nat}  (v1 : Int32) (v5 : Int32) (v6 : Int64)  (g : M2) {b : M2} (h : j_Mo_addsPower_12 v1 v5 v6 g = some b) : Ev Lx 106 cd_106 12 [some (.ref 157), some (.int v1), none, none, none, some (.int v5), some (.long v6)] [] g (none, b) := by
  unfold j_Mo_addsPower_12 at h
  refine ev_rn (n := 2) (i2 := 14) (L2 := [some (.ref 157), some (.int v1), none, none, none, some (.int v5), some (.long v6), none, some (.int (0 : Int32))]) (st2 := []) (g2 := g) cdE_106 rfl ?_
  obtain ⟨e8, he8, h⟩ := Option.bind_eq_some_iff.mp h
  have hX9 : Ev Lx 106 cd_106 42 [] [] e8 (none, b) := by
    cases h
    exact ev_ret rfl rfl
  exact ev_wk (L := [some (.ref 157), some (.int v1), none, none, none, some (.int v5), some (.long v6), none, some (.int (0 : Int32))]) (lp_ind (P := (fun (s : (Int32 × M2)) => Ev Lx 106 cd_106 14 [some (.ref 157), some (.int v1), none, none, none, some (.int v5), some (.long v6), none, some (.int s.1)] [] s.2 (none, b))) (fun s s2 hs hP => tb_Mo_addsPower_14 v1 v5 v6  s.1 s.2 (b := .inl s2) hs hP) (fun s hs => tb_Mo_addsPower_14 v1 v5 v6  s.1 s.2 (b := .inr e8) hs hX9) _ _ he8) ⟨rfl, ⟨rfl, ⟨rfl, ⟨rfl, ⟨rfl, trivial⟩⟩⟩⟩⟩
def f_Mo_addsPower (p0 : Int32) (p1 : Int32) (p2 : Int64) (g : M2) : Option (M2) := ((f_Ma_floorMod p1 (12 : Int32) g).bind fun q1 => (if (6 : Int32) ≤ q1 then (j_Mo_addsPower_12 p0 q1 (-p2) g) else (j_Mo_addsPower_12 p0 q1 p2 g)))
theorem e_Mo_addsPower {Lx : Nat} (p0 : Int32) (p1 : Int32) (p2 : Int64)  (g : M2) {b : M2} (h : f_Mo_addsPower p0 p1 p2 g = some b) : Ev Lx 106 cd_106 0 [some (.ref 157), some (.int p0), some (.int p1), some (.long p2), none] [] g (none, b) := by
  unfold f_Mo_addsPower at h
  refine ev_rn (n := 2) (i2 := 2) (L2 := [some (.ref 157), some (.int p0), some (.int p1), some (.long p2), none]) (st2 := [.int (12 : Int32), .int p1]) (g2 := g) cdE_106 rfl ?_
  obtain ⟨q1, hq1, h⟩ := Option.bind_eq_some_iff.mp h
  refine ev_call rfl cdE_105 rfl rfl rfl (e_Ma_floorMod p1 (12 : Int32)  g hq1) ?_
  refine ev_rn (n := 3) (i2 := 6) (L2 := [some (.ref 157), some (.int p0), some (.int p1), some (.long p2), none, some (.int q1)]) (st2 := [.int (6 : Int32), .int q1]) (g2 := g) cdE_106 rfl ?_
  by_cases hc2 : (6 : Int32) ≤ q1
  · rw [if_pos hc2] at h
    refine ev_ift cdE_106 rfl (cn_t hc2) ?_
    refine ev_rn (n := 3) (i2 := 12) (L2 := [some (.ref 157), some (.int p0), some (.int p1), some (.long p2), none, some (.int q1), some (.long (-p2)), none]) (st2 := []) (g2 := g) cdE_106 rfl ?_
    exact ev_wk (L := [some (.ref 157), some (.int p0), none, none, none, some (.int q1), some (.long (-p2))]) (tj_Mo_addsPower_12  p0 q1 (-p2)  g h) ⟨rfl, ⟨rfl, ⟨rfl, ⟨rfl, trivial⟩⟩⟩⟩
  · rw [if_neg hc2] at h
    refine ev_iff rfl (cn_f hc2) ?_
    refine ev_rn (n := 3) (i2 := 12) (L2 := [some (.ref 157), some (.int p0), some (.int p1), some (.long p2), none, some (.int q1), some (.long p2), none]) (st2 := []) (g2 := g) cdE_106 rfl ?_
    exact ev_wk (L := [some (.ref 157), some (.int p0), none, none, none, some (.int q1), some (.long p2)]) (tj_Mo_addsPower_12  p0 q1 p2  g h) ⟨rfl, ⟨rfl, ⟨rfl, ⟨rfl, trivial⟩⟩⟩⟩
def b_Mo_laysGram_23 (v1 : Int32) (v2 : Int32) (v3 : Int32) (v4 : Int32) (v5 : Int32) (g : M2) : Option ((Int32 × M2) ⊕ M2) := (if (g.1 157 8) ≤ v5 then some (.inr g) else (if inb v2 5 then (if inb (g.1 165 v2.toNatClampNeg) 5 then (if inb v3 5 then (if inb (g.1 165 v3.toNatClampNeg) 5 then (if inb v5 5 then ((f_Mo_addsPower v4 (((g.1 163 (g.1 165 v2.toNatClampNeg).toNatClampNeg) - (g.1 163 (g.1 165 v3.toNatClampNeg).toNatClampNeg)) * (g.1 162 v5.toNatClampNeg)) (1 : Int64) g).bind fun q10 => some (.inl ((v5 + (1 : Int32)), q10))) else none) else none) else none) else none) else none))
theorem tb_Mo_laysGram_23 {Lx : Nat} (v1 : Int32) (v2 : Int32) (v3 : Int32) (v4 : Int32)  (v5 : Int32) (g : M2) {b : (Int32 × M2) ⊕ M2} {o : Option Value × M2} (h : b_Mo_laysGram_23 v1 v2 v3 v4 v5 g = some b) (hb : Sum.elim (fun s => Ev Lx 107 cd_107 23 [some (.ref 157), some (.int v1), some (.int v2), some (.int v3), some (.int v4), some (.int s.1)] [] s.2 o) (fun e => Ev Lx 107 cd_107 53 [some (.ref 157), some (.int v1), some (.int v2), some (.int v3)] [] e o) b) : Ev Lx 107 cd_107 23 [some (.ref 157), some (.int v1), some (.int v2), some (.int v3), some (.int v4), some (.int v5)] [] g o := by
  unfold b_Mo_laysGram_23 at h
  refine ev_rn (n := 3) (i2 := 26) (L2 := [some (.ref 157), some (.int v1), some (.int v2), some (.int v3), some (.int v4), some (.int v5)]) (st2 := [.int (g.1 157 8), .int v5]) (g2 := g) cdE_107 rfl ?_
  by_cases hc4 : (g.1 157 8) ≤ v5
  · rw [if_pos hc4] at h
    refine ev_ift cdE_107 rfl (cn_t hc4) ?_
    cases h
    exact ev_wk (L := [some (.ref 157), some (.int v1), some (.int v2), some (.int v3)]) hb ⟨rfl, ⟨rfl, ⟨rfl, ⟨rfl, trivial⟩⟩⟩⟩
  · rw [if_neg hc4] at h
    refine ev_iff rfl (cn_f hc4) ?_
    refine ev_rn (n := 7) (i2 := 34) (L2 := [some (.ref 157), some (.int v1), some (.int v2), some (.int v3), some (.int v4), some (.int v5)]) (st2 := [.int v2, .ref 165, .ref 163, .int v4, .ref 157]) (g2 := g) cdE_107 rfl ?_
    by_cases hi5 : inb v2 5
    · rw [if_pos hi5] at h
      refine ev_iaload (v := .int (g.1 165 v2.toNatClampNeg)) rfl (kd_of (show S0[165]? = some (100, 5, List.replicate 5 none) from rfl)) (by decide) hi5 rfl ?_
      by_cases hi6 : inb (g.1 165 v2.toNatClampNeg) 5
      · rw [if_pos hi6] at h
        refine ev_iaload (v := .int (g.1 163 (g.1 165 v2.toNatClampNeg).toNatClampNeg)) rfl (kd_of (show S0[163]? = some (100, 5, List.replicate 5 none) from rfl)) (by decide) hi6 rfl ?_
        refine ev_rn (n := 5) (i2 := 41) (L2 := [some (.ref 157), some (.int v1), some (.int v2), some (.int v3), some (.int v4), some (.int v5)]) (st2 := [.int v3, .ref 165, .ref 163, .int (g.1 163 (g.1 165 v2.toNatClampNeg).toNatClampNeg), .int v4, .ref 157]) (g2 := g) cdE_107 rfl ?_
        by_cases hi7 : inb v3 5
        · rw [if_pos hi7] at h
          refine ev_iaload (v := .int (g.1 165 v3.toNatClampNeg)) rfl (kd_of (show S0[165]? = some (100, 5, List.replicate 5 none) from rfl)) (by decide) hi7 rfl ?_
          by_cases hi8 : inb (g.1 165 v3.toNatClampNeg) 5
          · rw [if_pos hi8] at h
            refine ev_iaload (v := .int (g.1 163 (g.1 165 v3.toNatClampNeg).toNatClampNeg)) rfl (kd_of (show S0[163]? = some (100, 5, List.replicate 5 none) from rfl)) (by decide) hi8 rfl ?_
            refine ev_rn (n := 4) (i2 := 47) (L2 := [some (.ref 157), some (.int v1), some (.int v2), some (.int v3), some (.int v4), some (.int v5)]) (st2 := [.int v5, .ref 162, .int ((g.1 163 (g.1 165 v2.toNatClampNeg).toNatClampNeg) - (g.1 163 (g.1 165 v3.toNatClampNeg).toNatClampNeg)), .int v4, .ref 157]) (g2 := g) cdE_107 rfl ?_
            by_cases hi9 : inb v5 5
            · rw [if_pos hi9] at h
              refine ev_iaload (v := .int (g.1 162 v5.toNatClampNeg)) rfl (kd_of (show S0[162]? = some (100, 5, List.replicate 5 none) from rfl)) (by decide) hi9 rfl ?_
              refine ev_rn (n := 2) (i2 := 50) (L2 := [some (.ref 157), some (.int v1), some (.int v2), some (.int v3), some (.int v4), some (.int v5)]) (st2 := [.long (1 : Int64), .int (((g.1 163 (g.1 165 v2.toNatClampNeg).toNatClampNeg) - (g.1 163 (g.1 165 v3.toNatClampNeg).toNatClampNeg)) * (g.1 162 v5.toNatClampNeg)), .int v4, .ref 157]) (g2 := g) cdE_107 rfl ?_
              obtain ⟨q10, hq10, h⟩ := Option.bind_eq_some_iff.mp h
              refine ev_call rfl cdE_106 rfl rfl rfl (e_Mo_addsPower v4 (((g.1 163 (g.1 165 v2.toNatClampNeg).toNatClampNeg) - (g.1 163 (g.1 165 v3.toNatClampNeg).toNatClampNeg)) * (g.1 162 v5.toNatClampNeg)) (1 : Int64)  g hq10) ?_
              refine ev_rn (n := 2) (i2 := 23) (L2 := [some (.ref 157), some (.int v1), some (.int v2), some (.int v3), some (.int v4), some (.int (v5 + (1 : Int32)))]) (st2 := []) (g2 := q10) cdE_107 rfl ?_
              cases h
              exact ev_wk (L := [some (.ref 157), some (.int v1), some (.int v2), some (.int v3), some (.int v4), some (.int (v5 + (1 : Int32)))]) hb ⟨rfl, ⟨rfl, ⟨rfl, ⟨rfl, ⟨rfl, ⟨rfl, trivial⟩⟩⟩⟩⟩⟩
            · rw [if_neg hi9] at h
              cases h
          · rw [if_neg hi8] at h
            cases h
        · rw [if_neg hi7] at h
          cases h
      · rw [if_neg hi6] at h
        cases h
    · rw [if_neg hi5] at h
      cases h
def b_Mo_laysGram_7 (v1 : Int32) (v2 : Int32) (v3 : Int32) (g : M2) : Option ((Int32 × M2) ⊕ M2) := (if v1 ≤ v3 then some (.inr g) else ((f_Mo_clears (((0 : Int32) + ((5 : Int32) * v2)) + v3) g).bind fun q3 => ((lp (fun s => b_Mo_laysGram_23 v1 v2 v3 (((0 : Int32) + ((5 : Int32) * v2)) + v3) s.1 s.2) 5000 ((0 : Int32), q3)).bind fun e11 => some (.inl ((v3 + (1 : Int32)), e11)))))
theorem tb_Mo_laysGram_7 {Lx : Nat} (v1 : Int32) (v2 : Int32)  (v3 : Int32) (g : M2) {b : (Int32 × M2) ⊕ M2} {o : Option Value × M2} (h : b_Mo_laysGram_7 v1 v2 v3 g = some b) (hb : Sum.elim (fun s => Ev Lx 107 cd_107 7 [some (.ref 157), some (.int v1), some (.int v2), some (.int s.1)] [] s.2 o) (fun e => Ev Lx 107 cd_107 55 [some (.ref 157), some (.int v1), some (.int v2)] [] e o) b) : Ev Lx 107 cd_107 7 [some (.ref 157), some (.int v1), some (.int v2), some (.int v3)] [] g o := by
  unfold b_Mo_laysGram_7 at h
  refine ev_rn (n := 2) (i2 := 9) (L2 := [some (.ref 157), some (.int v1), some (.int v2), some (.int v3)]) (st2 := [.int v1, .int v3]) (g2 := g) cdE_107 rfl ?_
  by_cases hc2 : v1 ≤ v3
  · rw [if_pos hc2] at h
    refine ev_ift cdE_107 rfl (cn_t hc2) ?_
    cases h
    exact ev_wk (L := [some (.ref 157), some (.int v1), some (.int v2)]) hb ⟨rfl, ⟨rfl, ⟨rfl, trivial⟩⟩⟩
  · rw [if_neg hc2] at h
    refine ev_iff rfl (cn_f hc2) ?_
    refine ev_rn (n := 10) (i2 := 20) (L2 := [some (.ref 157), some (.int v1), some (.int v2), some (.int v3), some (.int (((0 : Int32) + ((5 : Int32) * v2)) + v3))]) (st2 := [.int (((0 : Int32) + ((5 : Int32) * v2)) + v3), .ref 157]) (g2 := g) cdE_107 rfl ?_
    obtain ⟨q3, hq3, h⟩ := Option.bind_eq_some_iff.mp h
    refine ev_call rfl cdE_104 rfl rfl rfl (e_Mo_clears (((0 : Int32) + ((5 : Int32) * v2)) + v3)  g hq3) ?_
    refine ev_rn (n := 2) (i2 := 23) (L2 := [some (.ref 157), some (.int v1), some (.int v2), some (.int v3), some (.int (((0 : Int32) + ((5 : Int32) * v2)) + v3)), some (.int (0 : Int32))]) (st2 := []) (g2 := q3) cdE_107 rfl ?_
    obtain ⟨e11, he11, h⟩ := Option.bind_eq_some_iff.mp h
    have hX12 : Ev Lx 107 cd_107 53 [some (.ref 157), some (.int v1), some (.int v2), some (.int v3)] [] e11 o := by
      refine ev_rn (n := 2) (i2 := 7) (L2 := [some (.ref 157), some (.int v1), some (.int v2), some (.int (v3 + (1 : Int32)))]) (st2 := []) (g2 := e11) cdE_107 rfl ?_
      cases h
      exact ev_wk (L := [some (.ref 157), some (.int v1), some (.int v2), some (.int (v3 + (1 : Int32)))]) hb ⟨rfl, ⟨rfl, ⟨rfl, ⟨rfl, trivial⟩⟩⟩⟩
    exact ev_wk (L := [some (.ref 157), some (.int v1), some (.int v2), some (.int v3), some (.int (((0 : Int32) + ((5 : Int32) * v2)) + v3)), some (.int (0 : Int32))]) (lp_ind (P := (fun (s : (Int32 × M2)) => Ev Lx 107 cd_107 23 [some (.ref 157), some (.int v1), some (.int v2), some (.int v3), some (.int (((0 : Int32) + ((5 : Int32) * v2)) + v3)), some (.int s.1)] [] s.2 o)) (fun s s2 hs hP => tb_Mo_laysGram_23 v1 v2 v3 (((0 : Int32) + ((5 : Int32) * v2)) + v3)  s.1 s.2 (b := .inl s2) hs hP) (fun s hs => tb_Mo_laysGram_23 v1 v2 v3 (((0 : Int32) + ((5 : Int32) * v2)) + v3)  s.1 s.2 (b := .inr e11) hs hX12) _ _ he11) ⟨rfl, ⟨rfl, ⟨rfl, ⟨rfl, ⟨rfl, ⟨rfl, trivial⟩⟩⟩⟩⟩⟩
def b_Mo_laysGram_2 (v1 : Int32) (v2 : Int32) (g : M2) : Option ((Int32 × M2) ⊕ M2) := (if v1 ≤ v2 then some (.inr g) else ((lp (fun s => b_Mo_laysGram_7 v1 v2 s.1 s.2) 5000 ((0 : Int32), g)).bind fun e13 => some (.inl ((v2 + (1 : Int32)), e13))))
theorem tb_Mo_laysGram_2 {Lx : Nat} (v1 : Int32)  (v2 : Int32) (g : M2) {b : (Int32 × M2) ⊕ M2} {o : Option Value × M2} (h : b_Mo_laysGram_2 v1 v2 g = some b) (hb : Sum.elim (fun s => Ev Lx 107 cd_107 2 [some (.ref 157), some (.int v1), some (.int s.1)] [] s.2 o) (fun e => Ev Lx 107 cd_107 57 [] [] e o) b) : Ev Lx 107 cd_107 2 [some (.ref 157), some (.int v1), some (.int v2)] [] g o := by
  unfold b_Mo_laysGram_2 at h
  refine ev_rn (n := 2) (i2 := 4) (L2 := [some (.ref 157), some (.int v1), some (.int v2)]) (st2 := [.int v1, .int v2]) (g2 := g) cdE_107 rfl ?_
  by_cases hc1 : v1 ≤ v2
  · rw [if_pos hc1] at h
    refine ev_ift cdE_107 rfl (cn_t hc1) ?_
    cases h
    exact ev_wk (L := []) hb trivial
  · rw [if_neg hc1] at h
    refine ev_iff rfl (cn_f hc1) ?_
    refine ev_rn (n := 2) (i2 := 7) (L2 := [some (.ref 157), some (.int v1), some (.int v2), some (.int (0 : Int32))]) (st2 := []) (g2 := g) cdE_107 rfl ?_
    obtain ⟨e13, he13, h⟩ := Option.bind_eq_some_iff.mp h
    have hX14 : Ev Lx 107 cd_107 55 [some (.ref 157), some (.int v1), some (.int v2)] [] e13 o := by
      refine ev_rn (n := 2) (i2 := 2) (L2 := [some (.ref 157), some (.int v1), some (.int (v2 + (1 : Int32)))]) (st2 := []) (g2 := e13) cdE_107 rfl ?_
      cases h
      exact ev_wk (L := [some (.ref 157), some (.int v1), some (.int (v2 + (1 : Int32)))]) hb ⟨rfl, ⟨rfl, ⟨rfl, trivial⟩⟩⟩
    exact ev_wk (L := [some (.ref 157), some (.int v1), some (.int v2), some (.int (0 : Int32))]) (lp_ind (P := (fun (s : (Int32 × M2)) => Ev Lx 107 cd_107 7 [some (.ref 157), some (.int v1), some (.int v2), some (.int s.1)] [] s.2 o)) (fun s s2 hs hP => tb_Mo_laysGram_7 v1 v2  s.1 s.2 (b := .inl s2) hs hP) (fun s hs => tb_Mo_laysGram_7 v1 v2  s.1 s.2 (b := .inr e13) hs hX14) _ _ he13) ⟨rfl, ⟨rfl, ⟨rfl, ⟨rfl, trivial⟩⟩⟩⟩
def f_Mo_laysGram (p0 : Int32) (g : M2) : Option (M2) := ((lp (fun s => b_Mo_laysGram_2 p0 s.1 s.2) 5000 ((0 : Int32), g)).bind fun e15 => some e15)
theorem e_Mo_laysGram {Lx : Nat} (p0 : Int32)  (g : M2) {b : M2} (h : f_Mo_laysGram p0 g = some b) : Ev Lx 107 cd_107 0 [some (.ref 157), some (.int p0)] [] g (none, b) := by
  unfold f_Mo_laysGram at h
  refine ev_rn (n := 2) (i2 := 2) (L2 := [some (.ref 157), some (.int p0), some (.int (0 : Int32))]) (st2 := []) (g2 := g) cdE_107 rfl ?_
  obtain ⟨e15, he15, h⟩ := Option.bind_eq_some_iff.mp h
  have hX16 : Ev Lx 107 cd_107 57 [] [] e15 (none, b) := by
    cases h
    exact ev_ret rfl rfl
  exact ev_wk (L := [some (.ref 157), some (.int p0), some (.int (0 : Int32))]) (lp_ind (P := (fun (s : (Int32 × M2)) => Ev Lx 107 cd_107 2 [some (.ref 157), some (.int p0), some (.int s.1)] [] s.2 (none, b))) (fun s s2 hs hP => tb_Mo_laysGram_2 p0  s.1 s.2 (b := .inl s2) hs hP) (fun s hs => tb_Mo_laysGram_2 p0  s.1 s.2 (b := .inr e15) hs hX16) _ _ he15) ⟨rfl, ⟨rfl, ⟨rfl, trivial⟩⟩⟩
def b_Mo_addsProduct_2 (v1 : Int32) (v2 : Int32) (v3 : Int32) (v4 : Int64) (v6 : Int32) (g : M2) : Option ((Int32 × M2) ⊕ M2) := (if (7 : Int32) ≤ v6 then some (.inr g) else (if inb v6 7 then (bd (uJ g 159 v6.toNatClampNeg (0 : Int64)) fun g2 => some (.inl ((v6 + (1 : Int32)), g2))) else none))
theorem tb_Mo_addsProduct_2 {Lx : Nat} (v1 : Int32) (v2 : Int32) (v3 : Int32) (v4 : Int64)  (v6 : Int32) (g : M2) {b : (Int32 × M2) ⊕ M2} {o : Option Value × M2} (h : b_Mo_addsProduct_2 v1 v2 v3 v4 v6 g = some b) (hb : Sum.elim (fun s => Ev Lx 108 cd_108 2 [some (.ref 157), some (.int v1), some (.int v2), some (.int v3), some (.long v4), none, some (.int s.1)] [] s.2 o) (fun e => Ev Lx 108 cd_108 12 [some (.ref 157), some (.int v1), some (.int v2), some (.int v3), some (.long v4)] [] e o) b) : Ev Lx 108 cd_108 2 [some (.ref 157), some (.int v1), some (.int v2), some (.int v3), some (.long v4), none, some (.int v6)] [] g o := by
  unfold b_Mo_addsProduct_2 at h
  refine ev_rn (n := 2) (i2 := 4) (L2 := [some (.ref 157), some (.int v1), some (.int v2), some (.int v3), some (.long v4), none, some (.int v6)]) (st2 := [.int (7 : Int32), .int v6]) (g2 := g) cdE_108 rfl ?_
  by_cases hc1 : (7 : Int32) ≤ v6
  · rw [if_pos hc1] at h
    refine ev_ift cdE_108 rfl (cn_t hc1) ?_
    cases h
    exact ev_wk (L := [some (.ref 157), some (.int v1), some (.int v2), some (.int v3), some (.long v4)]) hb ⟨rfl, ⟨rfl, ⟨rfl, ⟨rfl, ⟨rfl, trivial⟩⟩⟩⟩⟩
  · rw [if_neg hc1] at h
    refine ev_iff rfl (cn_f hc1) ?_
    refine ev_rn (n := 4) (i2 := 9) (L2 := [some (.ref 157), some (.int v1), some (.int v2), some (.int v3), some (.long v4), none, some (.int v6)]) (st2 := [.long (0 : Int64), .int v6, .ref 159]) (g2 := g) cdE_108 rfl ?_
    by_cases hi3 : inb v6 7
    · rw [if_pos hi3] at h
      refine bd_elim h (fun g2 hg2 h => ?_)
      refine ev_lastore (g2 := g2) rfl (show S0[159]? = some (101, 7, List.replicate 7 none) from rfl) (by decide) hi3 (by rw [hg2] <;> rfl) ?_
      refine ev_rn (n := 2) (i2 := 2) (L2 := [some (.ref 157), some (.int v1), some (.int v2), some (.int v3), some (.long v4), none, some (.int (v6 + (1 : Int32)))]) (st2 := []) (g2 := g2) cdE_108 rfl ?_
      cases h
      exact ev_wk (L := [some (.ref 157), some (.int v1), some (.int v2), some (.int v3), some (.long v4), none, some (.int (v6 + (1 : Int32)))]) hb ⟨rfl, ⟨rfl, ⟨rfl, ⟨rfl, ⟨rfl, ⟨rfl, trivial⟩⟩⟩⟩⟩⟩
    · rw [if_neg hi3] at h
      cases h
def b_Mo_addsProduct_19 (v1 : Int32) (v2 : Int32) (v3 : Int32) (v4 : Int64) (v6 : Int32) (v7 : Int32) (g : M2) : Option ((Int32 × M2) ⊕ M2) := (if (4 : Int32) ≤ v7 then some (.inr g) else (if inb (v6 + v7) 7 then (if inb (((4 : Int32) * v2) + v6) 352 then (if inb (((4 : Int32) * v3) + v7) 352 then (if inb (v6 + v7) 7 then (bd (uJ g 159 (v6 + v7).toNatClampNeg ((g.2 159 (v6 + v7).toNatClampNeg) + ((g.2 158 (((4 : Int32) * v2) + v6).toNatClampNeg) * (g.2 158 (((4 : Int32) * v3) + v7).toNatClampNeg)))) fun g10 => some (.inl ((v7 + (1 : Int32)), g10))) else none) else none) else none) else none))
theorem tb_Mo_addsProduct_19 {Lx : Nat} (v1 : Int32) (v2 : Int32) (v3 : Int32) (v4 : Int64) (v6 : Int32)  (v7 : Int32) (g : M2) {b : (Int32 × M2) ⊕ M2} {o : Option Value × M2} (h : b_Mo_addsProduct_19 v1 v2 v3 v4 v6 v7 g = some b) (hb : Sum.elim (fun s => Ev Lx 108 cd_108 19 [some (.ref 157), some (.int v1), some (.int v2), some (.int v3), some (.long v4), none, some (.int v6), some (.int s.1)] [] s.2 o) (fun e => Ev Lx 108 cd_108 50 [some (.ref 157), some (.int v1), some (.int v2), some (.int v3), some (.long v4), none, some (.int v6)] [] e o) b) : Ev Lx 108 cd_108 19 [some (.ref 157), some (.int v1), some (.int v2), some (.int v3), some (.long v4), none, some (.int v6), some (.int v7)] [] g o := by
  unfold b_Mo_addsProduct_19 at h
  refine ev_rn (n := 2) (i2 := 21) (L2 := [some (.ref 157), some (.int v1), some (.int v2), some (.int v3), some (.long v4), none, some (.int v6), some (.int v7)]) (st2 := [.int (4 : Int32), .int v7]) (g2 := g) cdE_108 rfl ?_
  by_cases hc6 : (4 : Int32) ≤ v7
  · rw [if_pos hc6] at h
    refine ev_ift cdE_108 rfl (cn_t hc6) ?_
    cases h
    exact ev_wk (L := [some (.ref 157), some (.int v1), some (.int v2), some (.int v3), some (.long v4), none, some (.int v6)]) hb ⟨rfl, ⟨rfl, ⟨rfl, ⟨rfl, ⟨rfl, ⟨rfl, trivial⟩⟩⟩⟩⟩⟩
  · rw [if_neg hc6] at h
    refine ev_iff rfl (cn_f hc6) ?_
    refine ev_rn (n := 6) (i2 := 28) (L2 := [some (.ref 157), some (.int v1), some (.int v2), some (.int v3), some (.long v4), none, some (.int v6), some (.int v7)]) (st2 := [.int (v6 + v7), .ref 159, .int (v6 + v7), .ref 159]) (g2 := g) cdE_108 rfl ?_
    by_cases hi7 : inb (v6 + v7) 7
    · rw [if_pos hi7] at h
      refine ev_laload (v := .long (g.2 159 (v6 + v7).toNatClampNeg)) rfl (kd_of (show S0[159]? = some (101, 7, List.replicate 7 none) from rfl)) (by decide) hi7 rfl ?_
      refine ev_rn (n := 7) (i2 := 36) (L2 := [some (.ref 157), some (.int v1), some (.int v2), some (.int v3), some (.long v4), none, some (.int v6), some (.int v7)]) (st2 := [.int (((4 : Int32) * v2) + v6), .ref 158, .long (g.2 159 (v6 + v7).toNatClampNeg), .int (v6 + v7), .ref 159]) (g2 := g) cdE_108 rfl ?_
      by_cases hi8 : inb (((4 : Int32) * v2) + v6) 352
      · rw [if_pos hi8] at h
        refine ev_laload (v := .long (g.2 158 (((4 : Int32) * v2) + v6).toNatClampNeg)) rfl (kd_of (show S0[158]? = some (101, 352, List.replicate 352 none) from rfl)) (by decide) hi8 rfl ?_
        refine ev_rn (n := 7) (i2 := 44) (L2 := [some (.ref 157), some (.int v1), some (.int v2), some (.int v3), some (.long v4), none, some (.int v6), some (.int v7)]) (st2 := [.int (((4 : Int32) * v3) + v7), .ref 158, .long (g.2 158 (((4 : Int32) * v2) + v6).toNatClampNeg), .long (g.2 159 (v6 + v7).toNatClampNeg), .int (v6 + v7), .ref 159]) (g2 := g) cdE_108 rfl ?_
        by_cases hi9 : inb (((4 : Int32) * v3) + v7) 352
        · rw [if_pos hi9] at h
          refine ev_laload (v := .long (g.2 158 (((4 : Int32) * v3) + v7).toNatClampNeg)) rfl (kd_of (show S0[158]? = some (101, 352, List.replicate 352 none) from rfl)) (by decide) hi9 rfl ?_
          refine ev_rn (n := 2) (i2 := 47) (L2 := [some (.ref 157), some (.int v1), some (.int v2), some (.int v3), some (.long v4), none, some (.int v6), some (.int v7)]) (st2 := [.long ((g.2 159 (v6 + v7).toNatClampNeg) + ((g.2 158 (((4 : Int32) * v2) + v6).toNatClampNeg) * (g.2 158 (((4 : Int32) * v3) + v7).toNatClampNeg))), .int (v6 + v7), .ref 159]) (g2 := g) cdE_108 rfl ?_
          by_cases hi11 : inb (v6 + v7) 7
          · rw [if_pos hi11] at h
            refine bd_elim h (fun g10 hg10 h => ?_)
            refine ev_lastore (g2 := g10) rfl (show S0[159]? = some (101, 7, List.replicate 7 none) from rfl) (by decide) hi11 (by rw [hg10] <;> rfl) ?_
            refine ev_rn (n := 2) (i2 := 19) (L2 := [some (.ref 157), some (.int v1), some (.int v2), some (.int v3), some (.long v4), none, some (.int v6), some (.int (v7 + (1 : Int32)))]) (st2 := []) (g2 := g10) cdE_108 rfl ?_
            cases h
            exact ev_wk (L := [some (.ref 157), some (.int v1), some (.int v2), some (.int v3), some (.long v4), none, some (.int v6), some (.int (v7 + (1 : Int32)))]) hb ⟨rfl, ⟨rfl, ⟨rfl, ⟨rfl, ⟨rfl, ⟨rfl, ⟨rfl, trivial⟩⟩⟩⟩⟩⟩⟩
          · rw [if_neg hi11] at h
            cases h
        · rw [if_neg hi9] at h
          cases h
      · rw [if_neg hi8] at h
        cases h
    · rw [if_neg hi7] at h
      cases h
def b_Mo_addsProduct_14 (v1 : Int32) (v2 : Int32) (v3 : Int32) (v4 : Int64) (v6 : Int32) (g : M2) : Option ((Int32 × M2) ⊕ M2) := (if (4 : Int32) ≤ v6 then some (.inr g) else ((lp (fun s => b_Mo_addsProduct_19 v1 v2 v3 v4 v6 s.1 s.2) 5000 ((0 : Int32), g)).bind fun e12 => some (.inl ((v6 + (1 : Int32)), e12))))
theorem tb_Mo_addsProduct_14 {Lx : Nat} (v1 : Int32) (v2 : Int32) (v3 : Int32) (v4 : Int64)  (v6 : Int32) (g : M2) {b : (Int32 × M2) ⊕ M2} {o : Option Value × M2} (h : b_Mo_addsProduct_14 v1 v2 v3 v4 v6 g = some b) (hb : Sum.elim (fun s => Ev Lx 108 cd_108 14 [some (.ref 157), some (.int v1), some (.int v2), some (.int v3), some (.long v4), none, some (.int s.1)] [] s.2 o) (fun e => Ev Lx 108 cd_108 52 [some (.ref 157), some (.int v1), none, none, some (.long v4)] [] e o) b) : Ev Lx 108 cd_108 14 [some (.ref 157), some (.int v1), some (.int v2), some (.int v3), some (.long v4), none, some (.int v6)] [] g o := by
  unfold b_Mo_addsProduct_14 at h
  refine ev_rn (n := 2) (i2 := 16) (L2 := [some (.ref 157), some (.int v1), some (.int v2), some (.int v3), some (.long v4), none, some (.int v6)]) (st2 := [.int (4 : Int32), .int v6]) (g2 := g) cdE_108 rfl ?_
  by_cases hc5 : (4 : Int32) ≤ v6
  · rw [if_pos hc5] at h
    refine ev_ift cdE_108 rfl (cn_t hc5) ?_
    cases h
    exact ev_wk (L := [some (.ref 157), some (.int v1), none, none, some (.long v4)]) hb ⟨rfl, ⟨rfl, ⟨rfl, trivial⟩⟩⟩
  · rw [if_neg hc5] at h
    refine ev_iff rfl (cn_f hc5) ?_
    refine ev_rn (n := 2) (i2 := 19) (L2 := [some (.ref 157), some (.int v1), some (.int v2), some (.int v3), some (.long v4), none, some (.int v6), some (.int (0 : Int32))]) (st2 := []) (g2 := g) cdE_108 rfl ?_
    obtain ⟨e12, he12, h⟩ := Option.bind_eq_some_iff.mp h
    have hX13 : Ev Lx 108 cd_108 50 [some (.ref 157), some (.int v1), some (.int v2), some (.int v3), some (.long v4), none, some (.int v6)] [] e12 o := by
      refine ev_rn (n := 2) (i2 := 14) (L2 := [some (.ref 157), some (.int v1), some (.int v2), some (.int v3), some (.long v4), none, some (.int (v6 + (1 : Int32)))]) (st2 := []) (g2 := e12) cdE_108 rfl ?_
      cases h
      exact ev_wk (L := [some (.ref 157), some (.int v1), some (.int v2), some (.int v3), some (.long v4), none, some (.int (v6 + (1 : Int32)))]) hb ⟨rfl, ⟨rfl, ⟨rfl, ⟨rfl, ⟨rfl, ⟨rfl, trivial⟩⟩⟩⟩⟩⟩
    exact ev_wk (L := [some (.ref 157), some (.int v1), some (.int v2), some (.int v3), some (.long v4), none, some (.int v6), some (.int (0 : Int32))]) (lp_ind (P := (fun (s : (Int32 × M2)) => Ev Lx 108 cd_108 19 [some (.ref 157), some (.int v1), some (.int v2), some (.int v3), some (.long v4), none, some (.int v6), some (.int s.1)] [] s.2 o)) (fun s s2 hs hP => tb_Mo_addsProduct_19 v1 v2 v3 v4 v6  s.1 s.2 (b := .inl s2) hs hP) (fun s hs => tb_Mo_addsProduct_19 v1 v2 v3 v4 v6  s.1 s.2 (b := .inr e12) hs hX13) _ _ he12) ⟨rfl, ⟨rfl, ⟨rfl, ⟨rfl, ⟨rfl, ⟨rfl, ⟨rfl, trivial⟩⟩⟩⟩⟩⟩⟩
def b_Mo_addsProduct_54 (v1 : Int32) (v4 : Int64) (v6 : Int32) (g : M2) : Option ((Int32 × M2) ⊕ M2) := (if (7 : Int32) ≤ v6 then some (.inr g) else (if inb v6 7 then ((f_Mo_addsPower v1 v6 ((g.2 159 v6.toNatClampNeg) * v4) g).bind fun q17 => some (.inl ((v6 + (1 : Int32)), q17))) else none))
theorem tb_Mo_addsProduct_54 {Lx : Nat} (v1 : Int32) (v4 : Int64)  (v6 : Int32) (g : M2) {b : (Int32 × M2) ⊕ M2} {o : Option Value × M2} (h : b_Mo_addsProduct_54 v1 v4 v6 g = some b) (hb : Sum.elim (fun s => Ev Lx 108 cd_108 54 [some (.ref 157), some (.int v1), none, none, some (.long v4), none, some (.int s.1)] [] s.2 o) (fun e => Ev Lx 108 cd_108 69 [] [] e o) b) : Ev Lx 108 cd_108 54 [some (.ref 157), some (.int v1), none, none, some (.long v4), none, some (.int v6)] [] g o := by
  unfold b_Mo_addsProduct_54 at h
  refine ev_rn (n := 2) (i2 := 56) (L2 := [some (.ref 157), some (.int v1), none, none, some (.long v4), none, some (.int v6)]) (st2 := [.int (7 : Int32), .int v6]) (g2 := g) cdE_108 rfl ?_
  by_cases hc15 : (7 : Int32) ≤ v6
  · rw [if_pos hc15] at h
    refine ev_ift cdE_108 rfl (cn_t hc15) ?_
    cases h
    exact ev_wk (L := []) hb trivial
  · rw [if_neg hc15] at h
    refine ev_iff rfl (cn_f hc15) ?_
    refine ev_rn (n := 6) (i2 := 63) (L2 := [some (.ref 157), some (.int v1), none, none, some (.long v4), none, some (.int v6)]) (st2 := [.int v6, .ref 159, .int v6, .int v1, .ref 157]) (g2 := g) cdE_108 rfl ?_
    by_cases hi16 : inb v6 7
    · rw [if_pos hi16] at h
      refine ev_laload (v := .long (g.2 159 v6.toNatClampNeg)) rfl (kd_of (show S0[159]? = some (101, 7, List.replicate 7 none) from rfl)) (by decide) hi16 rfl ?_
      refine ev_rn (n := 2) (i2 := 66) (L2 := [some (.ref 157), some (.int v1), none, none, some (.long v4), none, some (.int v6)]) (st2 := [.long ((g.2 159 v6.toNatClampNeg) * v4), .int v6, .int v1, .ref 157]) (g2 := g) cdE_108 rfl ?_
      obtain ⟨q17, hq17, h⟩ := Option.bind_eq_some_iff.mp h
      refine ev_call rfl cdE_106 rfl rfl rfl (e_Mo_addsPower v1 v6 ((g.2 159 v6.toNatClampNeg) * v4)  g hq17) ?_
      refine ev_rn (n := 2) (i2 := 54) (L2 := [some (.ref 157), some (.int v1), none, none, some (.long v4), none, some (.int (v6 + (1 : Int32)))]) (st2 := []) (g2 := q17) cdE_108 rfl ?_
      cases h
      exact ev_wk (L := [some (.ref 157), some (.int v1), none, none, some (.long v4), none, some (.int (v6 + (1 : Int32)))]) hb ⟨rfl, ⟨rfl, ⟨rfl, ⟨rfl, trivial⟩⟩⟩⟩
    · rw [if_neg hi16] at h
      cases h
def f_Mo_addsProduct (p0 : Int32) (p1 : Int32) (p2 : Int32) (p3 : Int64) (g : M2) : Option (M2) := ((lp (fun s => b_Mo_addsProduct_2 p0 p1 p2 p3 s.1 s.2) 5000 ((0 : Int32), g)).bind fun e4 => ((lp (fun s => b_Mo_addsProduct_14 p0 p1 p2 p3 s.1 s.2) 5000 ((0 : Int32), e4)).bind fun e14 => ((lp (fun s => b_Mo_addsProduct_54 p0 p3 s.1 s.2) 5000 ((0 : Int32), e14)).bind fun e18 => some e18)))
theorem e_Mo_addsProduct {Lx : Nat} (p0 : Int32) (p1 : Int32) (p2 : Int32) (p3 : Int64)  (g : M2) {b : M2} (h : f_Mo_addsProduct p0 p1 p2 p3 g = some b) : Ev Lx 108 cd_108 0 [some (.ref 157), some (.int p0), some (.int p1), some (.int p2), some (.long p3), none] [] g (none, b) := by
  unfold f_Mo_addsProduct at h
  refine ev_rn (n := 2) (i2 := 2) (L2 := [some (.ref 157), some (.int p0), some (.int p1), some (.int p2), some (.long p3), none, some (.int (0 : Int32))]) (st2 := []) (g2 := g) cdE_108 rfl ?_
  obtain ⟨e4, he4, h⟩ := Option.bind_eq_some_iff.mp h
  have hX21 : Ev Lx 108 cd_108 12 [some (.ref 157), some (.int p0), some (.int p1), some (.int p2), some (.long p3)] [] e4 (none, b) := by
    refine ev_rn (n := 2) (i2 := 14) (L2 := [some (.ref 157), some (.int p0), some (.int p1), some (.int p2), some (.long p3), none, some (.int (0 : Int32))]) (st2 := []) (g2 := e4) cdE_108 rfl ?_
    obtain ⟨e14, he14, h⟩ := Option.bind_eq_some_iff.mp h
    have hX20 : Ev Lx 108 cd_108 52 [some (.ref 157), some (.int p0), none, none, some (.long p3)] [] e14 (none, b) := by
      refine ev_rn (n := 2) (i2 := 54) (L2 := [some (.ref 157), some (.int p0), none, none, some (.long p3), none, some (.int (0 : Int32))]) (st2 := []) (g2 := e14) cdE_108 rfl ?_
      obtain ⟨e18, he18, h⟩ := Option.bind_eq_some_iff.mp h
      have hX19 : Ev Lx 108 cd_108 69 [] [] e18 (none, b) := by
        cases h
        exact ev_ret rfl rfl
      exact ev_wk (L := [some (.ref 157), some (.int p0), none, none, some (.long p3), none, some (.int (0 : Int32))]) (lp_ind (P := (fun (s : (Int32 × M2)) => Ev Lx 108 cd_108 54 [some (.ref 157), some (.int p0), none, none, some (.long p3), none, some (.int s.1)] [] s.2 (none, b))) (fun s s2 hs hP => tb_Mo_addsProduct_54 p0 p3  s.1 s.2 (b := .inl s2) hs hP) (fun s hs => tb_Mo_addsProduct_54 p0 p3  s.1 s.2 (b := .inr e18) hs hX19) _ _ he18) ⟨rfl, ⟨rfl, ⟨rfl, ⟨rfl, trivial⟩⟩⟩⟩
    exact ev_wk (L := [some (.ref 157), some (.int p0), some (.int p1), some (.int p2), some (.long p3), none, some (.int (0 : Int32))]) (lp_ind (P := (fun (s : (Int32 × M2)) => Ev Lx 108 cd_108 14 [some (.ref 157), some (.int p0), some (.int p1), some (.int p2), some (.long p3), none, some (.int s.1)] [] s.2 (none, b))) (fun s s2 hs hP => tb_Mo_addsProduct_14 p0 p1 p2 p3  s.1 s.2 (b := .inl s2) hs hP) (fun s hs => tb_Mo_addsProduct_14 p0 p1 p2 p3  s.1 s.2 (b := .inr e14) hs hX20) _ _ he14) ⟨rfl, ⟨rfl, ⟨rfl, ⟨rfl, ⟨rfl, ⟨rfl, trivial⟩⟩⟩⟩⟩⟩
  exact ev_wk (L := [some (.ref 157), some (.int p0), some (.int p1), some (.int p2), some (.long p3), none, some (.int (0 : Int32))]) (lp_ind (P := (fun (s : (Int32 × M2)) => Ev Lx 108 cd_108 2 [some (.ref 157), some (.int p0), some (.int p1), some (.int p2), some (.long p3), none, some (.int s.1)] [] s.2 (none, b))) (fun s s2 hs hP => tb_Mo_addsProduct_2 p0 p1 p2 p3  s.1 s.2 (b := .inl s2) hs hP) (fun s hs => tb_Mo_addsProduct_2 p0 p1 p2 p3  s.1 s.2 (b := .inr e4) hs hX21) _ _ he4) ⟨rfl, ⟨rfl, ⟨rfl, ⟨rfl, ⟨rfl, ⟨rfl, trivial⟩⟩⟩⟩⟩⟩
def b_Mo_laysDeterminants_33 (v1 : Int32) (v2 : Int32) (v3 : Int32) (v4 : Int32) (v5 : Int32) (v6 : Int32) (g : M2) : Option ((Int32 × Int32 × M2) ⊕ M2) := (if v2 ≤ v6 then some (.inr g) else (if ((v3 >>> (v6 &&& 31)) &&& (1 : Int32)) = 0 then some (.inl (v5, (v6 + (1 : Int32)), g)) else (if (((v5 + v4) - (1 : Int32)) - ((v5 + v4) - (1 : Int32)) / (2 : Int32) * (2 : Int32)) = 0 then ((f_Mo_addsProduct ((25 : Int32) + v3) (((0 : Int32) + ((5 : Int32) * ((v1 + v4) - (1 : Int32)))) + v6) ((25 : Int32) + (v3 &&& (((1 : Int32) <<< (v6 &&& 31)) ^^^ (-1 : Int32)))) (1 : Int64) g).bind fun q10 => some (.inl ((v5 + (1 : Int32)), (v6 + (1 : Int32)), q10))) else ((f_Mo_addsProduct ((25 : Int32) + v3) (((0 : Int32) + ((5 : Int32) * ((v1 + v4) - (1 : Int32)))) + v6) ((25 : Int32) + (v3 &&& (((1 : Int32) <<< (v6 &&& 31)) ^^^ (-1 : Int32)))) (-1 : Int64) g).bind fun q9 => some (.inl ((v5 + (1 : Int32)), (v6 + (1 : Int32)), q9))))))
theorem tb_Mo_laysDeterminants_33 {Lx : Nat} (v1 : Int32) (v2 : Int32) (v3 : Int32) (v4 : Int32)  (v5 : Int32) (v6 : Int32) (g : M2) {b : (Int32 × Int32 × M2) ⊕ M2} {o : Option Value × M2} (h : b_Mo_laysDeterminants_33 v1 v2 v3 v4 v5 v6 g = some b) (hb : Sum.elim (fun s => Ev Lx 109 cd_109 33 [some (.ref 157), some (.int v1), some (.int v2), some (.int v3), some (.int v4), some (.int s.1), some (.int s.2.1)] [] s.2.2 o) (fun e => Ev Lx 109 cd_109 82 [some (.ref 157), some (.int v1), some (.int v2), some (.int v3)] [] e o) b) : Ev Lx 109 cd_109 33 [some (.ref 157), some (.int v1), some (.int v2), some (.int v3), some (.int v4), some (.int v5), some (.int v6)] [] g o := by
  unfold b_Mo_laysDeterminants_33 at h
  refine ev_rn (n := 2) (i2 := 35) (L2 := [some (.ref 157), some (.int v1), some (.int v2), some (.int v3), some (.int v4), some (.int v5), some (.int v6)]) (st2 := [.int v2, .int v6]) (g2 := g) cdE_109 rfl ?_
  by_cases hc6 : v2 ≤ v6
  · rw [if_pos hc6] at h
    refine ev_ift cdE_109 rfl (cn_t hc6) ?_
    cases h
    exact ev_wk (L := [some (.ref 157), some (.int v1), some (.int v2), some (.int v3)]) hb ⟨rfl, ⟨rfl, ⟨rfl, ⟨rfl, trivial⟩⟩⟩⟩
  · rw [if_neg hc6] at h
    refine ev_iff rfl (cn_f hc6) ?_
    refine ev_rn (n := 5) (i2 := 41) (L2 := [some (.ref 157), some (.int v1), some (.int v2), some (.int v3), some (.int v4), some (.int v5), some (.int v6)]) (st2 := [.int ((v3 >>> (v6 &&& 31)) &&& (1 : Int32))]) (g2 := g) cdE_109 rfl ?_
    by_cases hc7 : ((v3 >>> (v6 &&& 31)) &&& (1 : Int32)) = 0
    · rw [if_pos hc7] at h
      refine ev_zff rfl (cn_f (fun q => q hc7)) ?_
      refine ev_rn (n := 3) (i2 := 33) (L2 := [some (.ref 157), some (.int v1), some (.int v2), some (.int v3), some (.int v4), some (.int v5), some (.int (v6 + (1 : Int32)))]) (st2 := []) (g2 := g) cdE_109 rfl ?_
      cases h
      exact ev_wk (L := [some (.ref 157), some (.int v1), some (.int v2), some (.int v3), some (.int v4), some (.int v5), some (.int (v6 + (1 : Int32)))]) hb ⟨rfl, ⟨rfl, ⟨rfl, ⟨rfl, ⟨rfl, ⟨rfl, ⟨rfl, trivial⟩⟩⟩⟩⟩⟩⟩
    · rw [if_neg hc7] at h
      refine ev_zft cdE_109 rfl (cn_t hc7) ?_
      refine ev_rn (n := 30) (i2 := 73) (L2 := [some (.ref 157), some (.int v1), some (.int v2), some (.int v3), some (.int v4), some (.int v5), some (.int v6)]) (st2 := [.int (2 : Int32), .int ((v5 + v4) - (1 : Int32)), .int ((25 : Int32) + (v3 &&& (((1 : Int32) <<< (v6 &&& 31)) ^^^ (-1 : Int32)))), .int (((0 : Int32) + ((5 : Int32) * ((v1 + v4) - (1 : Int32)))) + v6), .int ((25 : Int32) + v3), .ref 157]) (g2 := g) cdE_109 rfl ?_
      refine ev_irem rfl (by decide) ?_
      by_cases hc8 : (((v5 + v4) - (1 : Int32)) - ((v5 + v4) - (1 : Int32)) / (2 : Int32) * (2 : Int32)) = 0
      · rw [if_pos hc8] at h
        refine ev_zff rfl (cn_f (fun q => q hc8)) ?_
        refine ev_rn (n := 2) (i2 := 78) (L2 := [some (.ref 157), some (.int v1), some (.int v2), some (.int v3), some (.int v4), some (.int v5), some (.int v6)]) (st2 := [.long (1 : Int64), .int ((25 : Int32) + (v3 &&& (((1 : Int32) <<< (v6 &&& 31)) ^^^ (-1 : Int32)))), .int (((0 : Int32) + ((5 : Int32) * ((v1 + v4) - (1 : Int32)))) + v6), .int ((25 : Int32) + v3), .ref 157]) (g2 := g) cdE_109 rfl ?_
        obtain ⟨q10, hq10, h⟩ := Option.bind_eq_some_iff.mp h
        refine ev_call rfl cdE_108 rfl rfl rfl (e_Mo_addsProduct ((25 : Int32) + v3) (((0 : Int32) + ((5 : Int32) * ((v1 + v4) - (1 : Int32)))) + v6) ((25 : Int32) + (v3 &&& (((1 : Int32) <<< (v6 &&& 31)) ^^^ (-1 : Int32)))) (1 : Int64)  g hq10) ?_
        refine ev_rn (n := 2) (i2 := 81) (L2 := [some (.ref 157), some (.int v1), some (.int v2), some (.int v3), some (.int v4), some (.int (v5 + (1 : Int32))), some (.int (v6 + (1 : Int32)))]) (st2 := []) (g2 := q10) cdE_109 rfl ?_
        refine ev_rn (n := 1) (i2 := 33) (L2 := [some (.ref 157), some (.int v1), some (.int v2), some (.int v3), some (.int v4), some (.int (v5 + (1 : Int32))), some (.int (v6 + (1 : Int32)))]) (st2 := []) (g2 := q10) cdE_109 rfl ?_
        cases h
        exact ev_wk (L := [some (.ref 157), some (.int v1), some (.int v2), some (.int v3), some (.int v4), some (.int (v5 + (1 : Int32))), some (.int (v6 + (1 : Int32)))]) hb ⟨rfl, ⟨rfl, ⟨rfl, ⟨rfl, ⟨rfl, ⟨rfl, ⟨rfl, trivial⟩⟩⟩⟩⟩⟩⟩
      · rw [if_neg hc8] at h
        refine ev_zft cdE_109 rfl (cn_t hc8) ?_
        refine ev_rn (n := 1) (i2 := 78) (L2 := [some (.ref 157), some (.int v1), some (.int v2), some (.int v3), some (.int v4), some (.int v5), some (.int v6)]) (st2 := [.long (-1 : Int64), .int ((25 : Int32) + (v3 &&& (((1 : Int32) <<< (v6 &&& 31)) ^^^ (-1 : Int32)))), .int (((0 : Int32) + ((5 : Int32) * ((v1 + v4) - (1 : Int32)))) + v6), .int ((25 : Int32) + v3), .ref 157]) (g2 := g) cdE_109 rfl ?_
        obtain ⟨q9, hq9, h⟩ := Option.bind_eq_some_iff.mp h
        refine ev_call rfl cdE_108 rfl rfl rfl (e_Mo_addsProduct ((25 : Int32) + v3) (((0 : Int32) + ((5 : Int32) * ((v1 + v4) - (1 : Int32)))) + v6) ((25 : Int32) + (v3 &&& (((1 : Int32) <<< (v6 &&& 31)) ^^^ (-1 : Int32)))) (-1 : Int64)  g hq9) ?_
        refine ev_rn (n := 2) (i2 := 81) (L2 := [some (.ref 157), some (.int v1), some (.int v2), some (.int v3), some (.int v4), some (.int (v5 + (1 : Int32))), some (.int (v6 + (1 : Int32)))]) (st2 := []) (g2 := q9) cdE_109 rfl ?_
        refine ev_rn (n := 1) (i2 := 33) (L2 := [some (.ref 157), some (.int v1), some (.int v2), some (.int v3), some (.int v4), some (.int (v5 + (1 : Int32))), some (.int (v6 + (1 : Int32)))]) (st2 := []) (g2 := q9) cdE_109 rfl ?_
        cases h
        exact ev_wk (L := [some (.ref 157), some (.int v1), some (.int v2), some (.int v3), some (.int v4), some (.int (v5 + (1 : Int32))), some (.int (v6 + (1 : Int32)))]) hb ⟨rfl, ⟨rfl, ⟨rfl, ⟨rfl, ⟨rfl, ⟨rfl, ⟨rfl, trivial⟩⟩⟩⟩⟩⟩⟩
def b_Mo_laysDeterminants_10 (v1 : Int32) (v2 : Int32) (v3 : Int32) (g : M2) : Option ((Int32 × M2) ⊕ M2) := (if ((1 : Int32) <<< (v2 &&& 31)) ≤ v3 then some (.inr g) else ((f_Mo_clears ((25 : Int32) + v3) g).bind fun q4 => (if (v1 + (f_In_bitCount v3 g)) ≤ v2 then ((lp (fun s => b_Mo_laysDeterminants_33 v1 v2 v3 (f_In_bitCount v3 g) s.1 s.2.1 s.2.2) 5000 ((0 : Int32), (0 : Int32), q4)).bind fun e11 => some (.inl ((v3 + (1 : Int32)), e11))) else some (.inl ((v3 + (1 : Int32)), q4)))))
theorem tb_Mo_laysDeterminants_10 {Lx : Nat} (v1 : Int32) (v2 : Int32)  (v3 : Int32) (g : M2) {b : (Int32 × M2) ⊕ M2} {o : Option Value × M2} (h : b_Mo_laysDeterminants_10 v1 v2 v3 g = some b) (hb : Sum.elim (fun s => Ev Lx 109 cd_109 10 [some (.ref 157), some (.int v1), some (.int v2), some (.int s.1)] [] s.2 o) (fun e => Ev Lx 109 cd_109 84 [] [] e o) b) : Ev Lx 109 cd_109 10 [some (.ref 157), some (.int v1), some (.int v2), some (.int v3)] [] g o := by
  unfold b_Mo_laysDeterminants_10 at h
  refine ev_rn (n := 4) (i2 := 14) (L2 := [some (.ref 157), some (.int v1), some (.int v2), some (.int v3)]) (st2 := [.int ((1 : Int32) <<< (v2 &&& 31)), .int v3]) (g2 := g) cdE_109 rfl ?_
  by_cases hc3 : ((1 : Int32) <<< (v2 &&& 31)) ≤ v3
  · rw [if_pos hc3] at h
    refine ev_ift cdE_109 rfl (cn_t hc3) ?_
    cases h
    exact ev_wk (L := []) hb trivial
  · rw [if_neg hc3] at h
    refine ev_iff rfl (cn_f hc3) ?_
    refine ev_rn (n := 1) (i2 := 16) (L2 := [some (.ref 157), some (.int v1), some (.int v2), some (.int v3)]) (st2 := [.int v3]) (g2 := g) cdE_109 rfl ?_
    refine ev_call rfl cdE_57 rfl rfl rfl (e_In_bitCount v3  g rfl) ?_
    refine ev_rn (n := 5) (i2 := 22) (L2 := [some (.ref 157), some (.int v1), some (.int v2), some (.int v3), some (.int (f_In_bitCount v3 g))]) (st2 := [.int ((25 : Int32) + v3), .ref 157]) (g2 := g) cdE_109 rfl ?_
    obtain ⟨q4, hq4, h⟩ := Option.bind_eq_some_iff.mp h
    refine ev_call rfl cdE_104 rfl rfl rfl (e_Mo_clears ((25 : Int32) + v3)  g hq4) ?_
    refine ev_rn (n := 4) (i2 := 27) (L2 := [some (.ref 157), some (.int v1), some (.int v2), some (.int v3), some (.int (f_In_bitCount v3 g))]) (st2 := [.int v2, .int (v1 + (f_In_bitCount v3 g))]) (g2 := q4) cdE_109 rfl ?_
    by_cases hc5 : (v1 + (f_In_bitCount v3 g)) ≤ v2
    · rw [if_pos hc5] at h
      refine ev_ift cdE_109 rfl (cn_t hc5) ?_
      refine ev_rn (n := 4) (i2 := 33) (L2 := [some (.ref 157), some (.int v1), some (.int v2), some (.int v3), some (.int (f_In_bitCount v3 g)), some (.int (0 : Int32)), some (.int (0 : Int32))]) (st2 := []) (g2 := q4) cdE_109 rfl ?_
      obtain ⟨e11, he11, h⟩ := Option.bind_eq_some_iff.mp h
      have hX12 : Ev Lx 109 cd_109 82 [some (.ref 157), some (.int v1), some (.int v2), some (.int v3)] [] e11 o := by
        refine ev_rn (n := 2) (i2 := 10) (L2 := [some (.ref 157), some (.int v1), some (.int v2), some (.int (v3 + (1 : Int32)))]) (st2 := []) (g2 := e11) cdE_109 rfl ?_
        cases h
        exact ev_wk (L := [some (.ref 157), some (.int v1), some (.int v2), some (.int (v3 + (1 : Int32)))]) hb ⟨rfl, ⟨rfl, ⟨rfl, ⟨rfl, trivial⟩⟩⟩⟩
      exact ev_wk (L := [some (.ref 157), some (.int v1), some (.int v2), some (.int v3), some (.int (f_In_bitCount v3 g)), some (.int (0 : Int32)), some (.int (0 : Int32))]) (lp_ind (P := (fun (s : (Int32 × Int32 × M2)) => Ev Lx 109 cd_109 33 [some (.ref 157), some (.int v1), some (.int v2), some (.int v3), some (.int (f_In_bitCount v3 g)), some (.int s.1), some (.int s.2.1)] [] s.2.2 o)) (fun s s2 hs hP => tb_Mo_laysDeterminants_33 v1 v2 v3 (f_In_bitCount v3 g)  s.1 s.2.1 s.2.2 (b := .inl s2) hs hP) (fun s hs => tb_Mo_laysDeterminants_33 v1 v2 v3 (f_In_bitCount v3 g)  s.1 s.2.1 s.2.2 (b := .inr e11) hs hX12) _ _ he11) ⟨rfl, ⟨rfl, ⟨rfl, ⟨rfl, ⟨rfl, ⟨rfl, ⟨rfl, trivial⟩⟩⟩⟩⟩⟩⟩
    · rw [if_neg hc5] at h
      refine ev_iff rfl (cn_f hc5) ?_
      refine ev_rn (n := 3) (i2 := 10) (L2 := [some (.ref 157), some (.int v1), some (.int v2), some (.int (v3 + (1 : Int32))), some (.int (f_In_bitCount v3 g))]) (st2 := []) (g2 := q4) cdE_109 rfl ?_
      cases h
      exact ev_wk (L := [some (.ref 157), some (.int v1), some (.int v2), some (.int (v3 + (1 : Int32)))]) hb ⟨rfl, ⟨rfl, ⟨rfl, ⟨rfl, trivial⟩⟩⟩⟩
def f_Mo_laysDeterminants (p0 : Int32) (p1 : Int32) (g : M2) : Option (M2) := ((f_Mo_clears (25 : Int32) g).bind fun q1 => (bd (uJ q1 158 100 (1 : Int64)) fun g2 => ((lp (fun s => b_Mo_laysDeterminants_10 p0 p1 s.1 s.2) 5000 ((1 : Int32), g2)).bind fun e13 => some e13)))
theorem e_Mo_laysDeterminants {Lx : Nat} (p0 : Int32) (p1 : Int32)  (g : M2) {b : M2} (h : f_Mo_laysDeterminants p0 p1 g = some b) : Ev Lx 109 cd_109 0 [some (.ref 157), some (.int p0), some (.int p1)] [] g (none, b) := by
  unfold f_Mo_laysDeterminants at h
  refine ev_rn (n := 2) (i2 := 2) (L2 := [some (.ref 157), some (.int p0), some (.int p1)]) (st2 := [.int (25 : Int32), .ref 157]) (g2 := g) cdE_109 rfl ?_
  obtain ⟨q1, hq1, h⟩ := Option.bind_eq_some_iff.mp h
  refine ev_call rfl cdE_104 rfl rfl rfl (e_Mo_clears (25 : Int32)  g hq1) ?_
  refine ev_rn (n := 4) (i2 := 7) (L2 := [some (.ref 157), some (.int p0), some (.int p1)]) (st2 := [.long (1 : Int64), .int (100 : Int32), .ref 158]) (g2 := q1) cdE_109 rfl ?_
  refine bd_elim h (fun g2 hg2 h => ?_)
  refine ev_lastore (g2 := g2) rfl (show S0[158]? = some (101, 352, List.replicate 352 none) from rfl) (by decide) ⟨by decide, by decide⟩ (by rw [hg2] <;> rfl) ?_
  refine ev_rn (n := 2) (i2 := 10) (L2 := [some (.ref 157), some (.int p0), some (.int p1), some (.int (1 : Int32))]) (st2 := []) (g2 := g2) cdE_109 rfl ?_
  obtain ⟨e13, he13, h⟩ := Option.bind_eq_some_iff.mp h
  have hX14 : Ev Lx 109 cd_109 84 [] [] e13 (none, b) := by
    cases h
    exact ev_ret rfl rfl
  exact ev_wk (L := [some (.ref 157), some (.int p0), some (.int p1), some (.int (1 : Int32))]) (lp_ind (P := (fun (s : (Int32 × M2)) => Ev Lx 109 cd_109 10 [some (.ref 157), some (.int p0), some (.int p1), some (.int s.1)] [] s.2 (none, b))) (fun s s2 hs hP => tb_Mo_laysDeterminants_10 p0 p1  s.1 s.2 (b := .inl s2) hs hP) (fun s hs => tb_Mo_laysDeterminants_10 p0 p1  s.1 s.2 (b := .inr e13) hs hX14) _ _ he13) ⟨rfl, ⟨rfl, ⟨rfl, ⟨rfl, trivial⟩⟩⟩⟩
def f_Mo_part (p0 : Int32) (p1 : Int32) (g : M2) : Option (Int64) := (if inb (((4 : Int32) * p0) + p1) 352 then some (g.2 158 (((4 : Int32) * p0) + p1).toNatClampNeg) else none)
theorem e_Mo_part {Lx : Nat} (p0 : Int32) (p1 : Int32)  (g : M2) {b : Int64} (h : f_Mo_part p0 p1 g = some b) : Ev Lx 110 cd_110 0 [some (.ref 157), some (.int p0), some (.int p1)] [] g (some (.long b), g) := by
  unfold f_Mo_part at h
  refine ev_rn (n := 7) (i2 := 7) (L2 := [some (.ref 157), some (.int p0), some (.int p1)]) (st2 := [.int (((4 : Int32) * p0) + p1), .ref 158]) (g2 := g) cdE_110 rfl ?_
  by_cases hi1 : inb (((4 : Int32) * p0) + p1) 352
  · rw [if_pos hi1] at h
    refine ev_laload (v := .long (g.2 158 (((4 : Int32) * p0) + p1).toNatClampNeg)) rfl (kd_of (show S0[158]? = some (101, 352, List.replicate 352 none) from rfl)) (by decide) hi1 rfl ?_
    cases h
    exact ev_ret rfl rfl
  · rw [if_neg hi1] at h
    cases h
def f_Mo_isNought (p0 : Int32) (g : M2) : Option (Int32) := ((f_Mo_part p0 (0 : Int32) g).bind fun q1 => (if q1 = (0 : Int64) then ((f_Mo_part p0 (1 : Int32) g).bind fun q3 => (if q3 = (0 : Int64) then ((f_Mo_part p0 (2 : Int32) g).bind fun q5 => (if q5 = (0 : Int64) then ((f_Mo_part p0 (3 : Int32) g).bind fun q7 => (if q7 = (0 : Int64) then some (1 : Int32) else some (0 : Int32))) else some (0 : Int32))) else some (0 : Int32))) else some (0 : Int32)))
theorem e_Mo_isNought {Lx : Nat} (p0 : Int32)  (g : M2) {b : Int32} (h : f_Mo_isNought p0 g = some b) : Ev Lx 111 cd_111 0 [some (.ref 157), some (.int p0)] [] g (some (.int b), g) := by
  unfold f_Mo_isNought at h
  refine ev_rn (n := 3) (i2 := 3) (L2 := [some (.ref 157), some (.int p0)]) (st2 := [.int (0 : Int32), .int p0, .ref 157]) (g2 := g) cdE_111 rfl ?_
  obtain ⟨q1, hq1, h⟩ := Option.bind_eq_some_iff.mp h
  refine ev_call rfl cdE_110 rfl rfl rfl (e_Mo_part p0 (0 : Int32)  g hq1) ?_
  refine ev_rn (n := 2) (i2 := 6) (L2 := [some (.ref 157), some (.int p0)]) (st2 := [.int (lg_cmp q1 (0 : Int64))]) (g2 := g) cdE_111 rfl ?_
  by_cases hc2 : q1 = (0 : Int64)
  · rw [if_pos hc2] at h
    refine ev_zff rfl (lc_ne_f hc2) ?_
    refine ev_rn (n := 3) (i2 := 10) (L2 := [some (.ref 157), some (.int p0)]) (st2 := [.int (1 : Int32), .int p0, .ref 157]) (g2 := g) cdE_111 rfl ?_
    obtain ⟨q3, hq3, h⟩ := Option.bind_eq_some_iff.mp h
    refine ev_call rfl cdE_110 rfl rfl rfl (e_Mo_part p0 (1 : Int32)  g hq3) ?_
    refine ev_rn (n := 2) (i2 := 13) (L2 := [some (.ref 157), some (.int p0)]) (st2 := [.int (lg_cmp q3 (0 : Int64))]) (g2 := g) cdE_111 rfl ?_
    by_cases hc4 : q3 = (0 : Int64)
    · rw [if_pos hc4] at h
      refine ev_zff rfl (lc_ne_f hc4) ?_
      refine ev_rn (n := 3) (i2 := 17) (L2 := [some (.ref 157), some (.int p0)]) (st2 := [.int (2 : Int32), .int p0, .ref 157]) (g2 := g) cdE_111 rfl ?_
      obtain ⟨q5, hq5, h⟩ := Option.bind_eq_some_iff.mp h
      refine ev_call rfl cdE_110 rfl rfl rfl (e_Mo_part p0 (2 : Int32)  g hq5) ?_
      refine ev_rn (n := 2) (i2 := 20) (L2 := [some (.ref 157), some (.int p0)]) (st2 := [.int (lg_cmp q5 (0 : Int64))]) (g2 := g) cdE_111 rfl ?_
      by_cases hc6 : q5 = (0 : Int64)
      · rw [if_pos hc6] at h
        refine ev_zff rfl (lc_ne_f hc6) ?_
        refine ev_rn (n := 3) (i2 := 24) (L2 := [some (.ref 157), some (.int p0)]) (st2 := [.int (3 : Int32), .int p0, .ref 157]) (g2 := g) cdE_111 rfl ?_
        obtain ⟨q7, hq7, h⟩ := Option.bind_eq_some_iff.mp h
        refine ev_call rfl cdE_110 rfl rfl rfl (e_Mo_part p0 (3 : Int32)  g hq7) ?_
        refine ev_rn (n := 2) (i2 := 27) (L2 := [some (.ref 157), some (.int p0)]) (st2 := [.int (lg_cmp q7 (0 : Int64))]) (g2 := g) cdE_111 rfl ?_
        by_cases hc8 : q7 = (0 : Int64)
        · rw [if_pos hc8] at h
          refine ev_zff rfl (lc_ne_f hc8) ?_
          refine ev_rn (n := 2) (i2 := 31) (L2 := [some (.ref 157), some (.int p0)]) (st2 := [.int (1 : Int32)]) (g2 := g) cdE_111 rfl ?_
          cases h
          exact ev_ret rfl rt_1
        · rw [if_neg hc8] at h
          refine ev_zft cdE_111 rfl (lc_ne_t hc8) ?_
          refine ev_rn (n := 1) (i2 := 31) (L2 := [some (.ref 157), some (.int p0)]) (st2 := [.int (0 : Int32)]) (g2 := g) cdE_111 rfl ?_
          cases h
          exact ev_ret rfl rt_0
      · rw [if_neg hc6] at h
        refine ev_zft cdE_111 rfl (lc_ne_t hc6) ?_
        refine ev_rn (n := 1) (i2 := 31) (L2 := [some (.ref 157), some (.int p0)]) (st2 := [.int (0 : Int32)]) (g2 := g) cdE_111 rfl ?_
        cases h
        exact ev_ret rfl rt_0
    · rw [if_neg hc4] at h
      refine ev_zft cdE_111 rfl (lc_ne_t hc4) ?_
      refine ev_rn (n := 1) (i2 := 31) (L2 := [some (.ref 157), some (.int p0)]) (st2 := [.int (0 : Int32)]) (g2 := g) cdE_111 rfl ?_
      cases h
      exact ev_ret rfl rt_0
  · rw [if_neg hc2] at h
    refine ev_zft cdE_111 rfl (lc_ne_t hc2) ?_
    refine ev_rn (n := 1) (i2 := 31) (L2 := [some (.ref 157), some (.int p0)]) (st2 := [.int (0 : Int32)]) (g2 := g) cdE_111 rfl ?_
    cases h
    exact ev_ret rfl rt_0
def b_Mo_findsRank_5  (v1 : Int32) (g : M2) : Option ((Int32 × M2) ⊕ M2) := (if (g.1 157 10) ≤ v1 then some (.inr g) else (if inb (g.1 157 14) 5 then (bd (uI g 165 (g.1 157 14).toNatClampNeg v1) fun g3 => ((f_Mo_laysGram ((g3.1 157 14) + (1 : Int32)) g3).bind fun q4 => ((f_Mo_laysDeterminants (0 : Int32) ((q4.1 157 14) + (1 : Int32)) q4).bind fun q5 => ((f_Mo_isNought (((25 : Int32) + ((1 : Int32) <<< (((q5.1 157 14) + (1 : Int32)) &&& 31))) - (1 : Int32)) q5).bind fun q6 => (if inb v1 5 then (bd (uI q5 164 v1.toNatClampNeg (q6 &&& 1)) fun g7 => (if inb v1 5 then (if (g7.1 164 v1.toNatClampNeg) = 0 then (bd (uI g7 157 14 ((g7.1 157 14) + (1 : Int32))) fun g10 => some (.inl ((v1 + (1 : Int32)), g10))) else some (.inl ((v1 + (1 : Int32)), g7))) else none)) else none))))) else none))
theorem tb_Mo_findsRank_5 {Lx : Nat}   (v1 : Int32) (g : M2) {b : (Int32 × M2) ⊕ M2} {o : Option Value × M2} (h : b_Mo_findsRank_5 v1 g = some b) (hb : Sum.elim (fun s => Ev Lx 112 cd_112 5 [some (.ref 157), some (.int s.1)] [] s.2 o) (fun e => Ev Lx 112 cd_112 57 [] [] e o) b) : Ev Lx 112 cd_112 5 [some (.ref 157), some (.int v1)] [] g o := by
  unfold b_Mo_findsRank_5 at h
  refine ev_rn (n := 3) (i2 := 8) (L2 := [some (.ref 157), some (.int v1)]) (st2 := [.int (g.1 157 10), .int v1]) (g2 := g) cdE_112 rfl ?_
  by_cases hc2 : (g.1 157 10) ≤ v1
  · rw [if_pos hc2] at h
    refine ev_ift cdE_112 rfl (cn_t hc2) ?_
    cases h
    exact ev_wk (L := []) hb trivial
  · rw [if_neg hc2] at h
    refine ev_iff rfl (cn_f hc2) ?_
    refine ev_rn (n := 5) (i2 := 14) (L2 := [some (.ref 157), some (.int v1)]) (st2 := [.int v1, .int (g.1 157 14), .ref 165]) (g2 := g) cdE_112 rfl ?_
    by_cases hi12 : inb (g.1 157 14) 5
    · rw [if_pos hi12] at h
      refine bd_elim h (fun g3 hg3 h => ?_)
      refine ev_iastore (g2 := g3) rfl (show S0[165]? = some (100, 5, List.replicate 5 none) from rfl) (by decide) hi12 (by rw [hg3] <;> rfl) ?_
      refine ev_rn (n := 5) (i2 := 20) (L2 := [some (.ref 157), some (.int v1)]) (st2 := [.int ((g3.1 157 14) + (1 : Int32)), .ref 157]) (g2 := g3) cdE_112 rfl ?_
      obtain ⟨q4, hq4, h⟩ := Option.bind_eq_some_iff.mp h
      refine ev_call rfl cdE_107 rfl rfl rfl (e_Mo_laysGram ((g3.1 157 14) + (1 : Int32))  g3 hq4) ?_
      refine ev_rn (n := 6) (i2 := 27) (L2 := [some (.ref 157), some (.int v1)]) (st2 := [.int ((q4.1 157 14) + (1 : Int32)), .int (0 : Int32), .ref 157]) (g2 := q4) cdE_112 rfl ?_
      obtain ⟨q5, hq5, h⟩ := Option.bind_eq_some_iff.mp h
      refine ev_call rfl cdE_109 rfl rfl rfl (e_Mo_laysDeterminants (0 : Int32) ((q4.1 157 14) + (1 : Int32))  q4 hq5) ?_
      refine ev_rn (n := 14) (i2 := 42) (L2 := [some (.ref 157), some (.int v1)]) (st2 := [.int (((25 : Int32) + ((1 : Int32) <<< (((q5.1 157 14) + (1 : Int32)) &&& 31))) - (1 : Int32)), .ref 157, .int v1, .ref 164]) (g2 := q5) cdE_112 rfl ?_
      obtain ⟨q6, hq6, h⟩ := Option.bind_eq_some_iff.mp h
      refine ev_call rfl cdE_111 rfl rfl rfl (e_Mo_isNought (((25 : Int32) + ((1 : Int32) <<< (((q5.1 157 14) + (1 : Int32)) &&& 31))) - (1 : Int32))  q5 hq6) ?_
      by_cases hi11 : inb v1 5
      · rw [if_pos hi11] at h
        refine bd_elim h (fun g7 hg7 h => ?_)
        refine ev_bastore (g2 := g7) rfl (show S0[164]? = some (103, 5, List.replicate 5 none) from rfl) (by decide) hi11 (by rw [hg7] <;> rfl) ?_
        refine ev_rn (n := 3) (i2 := 47) (L2 := [some (.ref 157), some (.int v1)]) (st2 := [.int v1, .ref 164]) (g2 := g7) cdE_112 rfl ?_
        by_cases hi8 : inb v1 5
        · rw [if_pos hi8] at h
          refine ev_baload (v := .int (g7.1 164 v1.toNatClampNeg)) rfl (kd_of (show S0[164]? = some (103, 5, List.replicate 5 none) from rfl)) (by decide) hi8 rfl ?_
          by_cases hc9 : (g7.1 164 v1.toNatClampNeg) = 0
          · rw [if_pos hc9] at h
            refine ev_zff rfl (cn_f (fun q => q hc9)) ?_
            refine ev_rn (n := 5) (i2 := 54) (L2 := [some (.ref 157), some (.int v1)]) (st2 := [.int ((g7.1 157 14) + (1 : Int32)), .ref 157]) (g2 := g7) cdE_112 rfl ?_
            refine bd_elim h (fun g10 hg10 h => ?_)
            refine ev_pf (g2 := g10) rfl (rfl : S0[157]? = some _) (by decide) (by rw [hg10] <;> rfl) ?_
            refine ev_rn (n := 2) (i2 := 5) (L2 := [some (.ref 157), some (.int (v1 + (1 : Int32)))]) (st2 := []) (g2 := g10) cdE_112 rfl ?_
            cases h
            exact ev_wk (L := [some (.ref 157), some (.int (v1 + (1 : Int32)))]) hb ⟨rfl, ⟨rfl, trivial⟩⟩
          · rw [if_neg hc9] at h
            refine ev_zft cdE_112 rfl (cn_t hc9) ?_
            refine ev_rn (n := 2) (i2 := 5) (L2 := [some (.ref 157), some (.int (v1 + (1 : Int32)))]) (st2 := []) (g2 := g7) cdE_112 rfl ?_
            cases h
            exact ev_wk (L := [some (.ref 157), some (.int (v1 + (1 : Int32)))]) hb ⟨rfl, ⟨rfl, trivial⟩⟩
        · rw [if_neg hi8] at h
          cases h
      · rw [if_neg hi11] at h
        cases h
    · rw [if_neg hi12] at h
      cases h
def f_Mo_findsRank  (g : M2) : Option (M2) := (bd (uI g 157 14 (0 : Int32)) fun g1 => ((lp (fun s => b_Mo_findsRank_5  s.1 s.2) 5000 ((0 : Int32), g1)).bind fun e13 => some e13))
theorem e_Mo_findsRank {Lx : Nat}   (g : M2) {b : M2} (h : f_Mo_findsRank  g = some b) : Ev Lx 112 cd_112 0 [some (.ref 157)] [] g (none, b) := by
  unfold f_Mo_findsRank at h
  refine ev_rn (n := 2) (i2 := 2) (L2 := [some (.ref 157)]) (st2 := [.int (0 : Int32), .ref 157]) (g2 := g) cdE_112 rfl ?_
  refine bd_elim h (fun g1 hg1 h => ?_)
  refine ev_pf (g2 := g1) rfl (rfl : S0[157]? = some _) (by decide) (by rw [hg1] <;> rfl) ?_
  refine ev_rn (n := 2) (i2 := 5) (L2 := [some (.ref 157), some (.int (0 : Int32))]) (st2 := []) (g2 := g1) cdE_112 rfl ?_
  obtain ⟨e13, he13, h⟩ := Option.bind_eq_some_iff.mp h
  have hX14 : Ev Lx 112 cd_112 57 [] [] e13 (none, b) := by
    cases h
    exact ev_ret rfl rfl
  exact ev_wk (L := [some (.ref 157), some (.int (0 : Int32))]) (lp_ind (P := (fun (s : (Int32 × M2)) => Ev Lx 112 cd_112 5 [some (.ref 157), some (.int s.1)] [] s.2 (none, b))) (fun s s2 hs hP => tb_Mo_findsRank_5   s.1 s.2 (b := .inl s2) hs hP) (fun s hs => tb_Mo_findsRank_5   s.1 s.2 (b := .inr e13) hs hX14) _ _ he13) ⟨rfl, ⟨rfl, trivial⟩⟩
def b_Mo_adds_2 (v1 : Int32) (v2 : Int32) (v3 : Int64) (v5 : Int32) (g : M2) : Option ((Int32 × M2) ⊕ M2) := (if (4 : Int32) ≤ v5 then some (.inr g) else (if inb (((4 : Int32) * v1) + v5) 352 then (if inb (((4 : Int32) * v2) + v5) 352 then (if inb (((4 : Int32) * v1) + v5) 352 then (bd (uJ g 158 (((4 : Int32) * v1) + v5).toNatClampNeg ((g.2 158 (((4 : Int32) * v1) + v5).toNatClampNeg) + ((g.2 158 (((4 : Int32) * v2) + v5).toNatClampNeg) * v3))) fun g4 => some (.inl ((v5 + (1 : Int32)), g4))) else none) else none) else none))
theorem tb_Mo_adds_2 {Lx : Nat} (v1 : Int32) (v2 : Int32) (v3 : Int64)  (v5 : Int32) (g : M2) {b : (Int32 × M2) ⊕ M2} {o : Option Value × M2} (h : b_Mo_adds_2 v1 v2 v3 v5 g = some b) (hb : Sum.elim (fun s => Ev Lx 113 cd_113 2 [some (.ref 157), some (.int v1), some (.int v2), some (.long v3), none, some (.int s.1)] [] s.2 o) (fun e => Ev Lx 113 cd_113 28 [] [] e o) b) : Ev Lx 113 cd_113 2 [some (.ref 157), some (.int v1), some (.int v2), some (.long v3), none, some (.int v5)] [] g o := by
  unfold b_Mo_adds_2 at h
  refine ev_rn (n := 2) (i2 := 4) (L2 := [some (.ref 157), some (.int v1), some (.int v2), some (.long v3), none, some (.int v5)]) (st2 := [.int (4 : Int32), .int v5]) (g2 := g) cdE_113 rfl ?_
  by_cases hc1 : (4 : Int32) ≤ v5
  · rw [if_pos hc1] at h
    refine ev_ift cdE_113 rfl (cn_t hc1) ?_
    cases h
    exact ev_wk (L := []) hb trivial
  · rw [if_neg hc1] at h
    refine ev_iff rfl (cn_f hc1) ?_
    refine ev_rn (n := 8) (i2 := 13) (L2 := [some (.ref 157), some (.int v1), some (.int v2), some (.long v3), none, some (.int v5)]) (st2 := [.int (((4 : Int32) * v1) + v5), .ref 158, .int (((4 : Int32) * v1) + v5), .ref 158]) (g2 := g) cdE_113 rfl ?_
    by_cases hi2 : inb (((4 : Int32) * v1) + v5) 352
    · rw [if_pos hi2] at h
      refine ev_laload (v := .long (g.2 158 (((4 : Int32) * v1) + v5).toNatClampNeg)) rfl (kd_of (show S0[158]? = some (101, 352, List.replicate 352 none) from rfl)) (by decide) hi2 rfl ?_
      refine ev_rn (n := 7) (i2 := 21) (L2 := [some (.ref 157), some (.int v1), some (.int v2), some (.long v3), none, some (.int v5)]) (st2 := [.int (((4 : Int32) * v2) + v5), .ref 158, .long (g.2 158 (((4 : Int32) * v1) + v5).toNatClampNeg), .int (((4 : Int32) * v1) + v5), .ref 158]) (g2 := g) cdE_113 rfl ?_
      by_cases hi3 : inb (((4 : Int32) * v2) + v5) 352
      · rw [if_pos hi3] at h
        refine ev_laload (v := .long (g.2 158 (((4 : Int32) * v2) + v5).toNatClampNeg)) rfl (kd_of (show S0[158]? = some (101, 352, List.replicate 352 none) from rfl)) (by decide) hi3 rfl ?_
        refine ev_rn (n := 3) (i2 := 25) (L2 := [some (.ref 157), some (.int v1), some (.int v2), some (.long v3), none, some (.int v5)]) (st2 := [.long ((g.2 158 (((4 : Int32) * v1) + v5).toNatClampNeg) + ((g.2 158 (((4 : Int32) * v2) + v5).toNatClampNeg) * v3)), .int (((4 : Int32) * v1) + v5), .ref 158]) (g2 := g) cdE_113 rfl ?_
        by_cases hi5 : inb (((4 : Int32) * v1) + v5) 352
        · rw [if_pos hi5] at h
          refine bd_elim h (fun g4 hg4 h => ?_)
          refine ev_lastore (g2 := g4) rfl (show S0[158]? = some (101, 352, List.replicate 352 none) from rfl) (by decide) hi5 (by rw [hg4] <;> rfl) ?_
          refine ev_rn (n := 2) (i2 := 2) (L2 := [some (.ref 157), some (.int v1), some (.int v2), some (.long v3), none, some (.int (v5 + (1 : Int32)))]) (st2 := []) (g2 := g4) cdE_113 rfl ?_
          cases h
          exact ev_wk (L := [some (.ref 157), some (.int v1), some (.int v2), some (.long v3), none, some (.int (v5 + (1 : Int32)))]) hb ⟨rfl, ⟨rfl, ⟨rfl, ⟨rfl, ⟨rfl, trivial⟩⟩⟩⟩⟩
        · rw [if_neg hi5] at h
          cases h
      · rw [if_neg hi3] at h
        cases h
    · rw [if_neg hi2] at h
      cases h
def f_Mo_adds (p0 : Int32) (p1 : Int32) (p2 : Int64) (g : M2) : Option (M2) := ((lp (fun s => b_Mo_adds_2 p0 p1 p2 s.1 s.2) 5000 ((0 : Int32), g)).bind fun e6 => some e6)
theorem e_Mo_adds {Lx : Nat} (p0 : Int32) (p1 : Int32) (p2 : Int64)  (g : M2) {b : M2} (h : f_Mo_adds p0 p1 p2 g = some b) : Ev Lx 113 cd_113 0 [some (.ref 157), some (.int p0), some (.int p1), some (.long p2), none] [] g (none, b) := by
  unfold f_Mo_adds at h
  refine ev_rn (n := 2) (i2 := 2) (L2 := [some (.ref 157), some (.int p0), some (.int p1), some (.long p2), none, some (.int (0 : Int32))]) (st2 := []) (g2 := g) cdE_113 rfl ?_
  obtain ⟨e6, he6, h⟩ := Option.bind_eq_some_iff.mp h
  have hX7 : Ev Lx 113 cd_113 28 [] [] e6 (none, b) := by
    cases h
    exact ev_ret rfl rfl
  exact ev_wk (L := [some (.ref 157), some (.int p0), some (.int p1), some (.long p2), none, some (.int (0 : Int32))]) (lp_ind (P := (fun (s : (Int32 × M2)) => Ev Lx 113 cd_113 2 [some (.ref 157), some (.int p0), some (.int p1), some (.long p2), none, some (.int s.1)] [] s.2 (none, b))) (fun s s2 hs hP => tb_Mo_adds_2 p0 p1 p2  s.1 s.2 (b := .inl s2) hs hP) (fun s hs => tb_Mo_adds_2 p0 p1 p2  s.1 s.2 (b := .inr e6) hs hX7) _ _ he6) ⟨rfl, ⟨rfl, ⟨rfl, ⟨rfl, ⟨rfl, trivial⟩⟩⟩⟩⟩
def b_Mo_addsTurned_2 (v1 : Int32) (v2 : Int32) (v3 : Int32) (v4 : Int64) (v6 : Int32) (g : M2) : Option ((Int32 × M2) ⊕ M2) := (if (4 : Int32) ≤ v6 then some (.inr g) else (if inb (((4 : Int32) * v2) + v6) 352 then ((f_Mo_addsPower v1 (v3 + v6) ((g.2 158 (((4 : Int32) * v2) + v6).toNatClampNeg) * v4) g).bind fun q3 => some (.inl ((v6 + (1 : Int32)), q3))) else none))
theorem tb_Mo_addsTurned_2 {Lx : Nat} (v1 : Int32) (v2 : Int32) (v3 : Int32) (v4 : Int64)  (v6 : Int32) (g : M2) {b : (Int32 × M2) ⊕ M2} {o : Option Value × M2} (h : b_Mo_addsTurned_2 v1 v2 v3 v4 v6 g = some b) (hb : Sum.elim (fun s => Ev Lx 114 cd_114 2 [some (.ref 157), some (.int v1), some (.int v2), some (.int v3), some (.long v4), none, some (.int s.1)] [] s.2 o) (fun e => Ev Lx 114 cd_114 23 [] [] e o) b) : Ev Lx 114 cd_114 2 [some (.ref 157), some (.int v1), some (.int v2), some (.int v3), some (.long v4), none, some (.int v6)] [] g o := by
  unfold b_Mo_addsTurned_2 at h
  refine ev_rn (n := 2) (i2 := 4) (L2 := [some (.ref 157), some (.int v1), some (.int v2), some (.int v3), some (.long v4), none, some (.int v6)]) (st2 := [.int (4 : Int32), .int v6]) (g2 := g) cdE_114 rfl ?_
  by_cases hc1 : (4 : Int32) ≤ v6
  · rw [if_pos hc1] at h
    refine ev_ift cdE_114 rfl (cn_t hc1) ?_
    cases h
    exact ev_wk (L := []) hb trivial
  · rw [if_neg hc1] at h
    refine ev_iff rfl (cn_f hc1) ?_
    refine ev_rn (n := 12) (i2 := 17) (L2 := [some (.ref 157), some (.int v1), some (.int v2), some (.int v3), some (.long v4), none, some (.int v6)]) (st2 := [.int (((4 : Int32) * v2) + v6), .ref 158, .int (v3 + v6), .int v1, .ref 157]) (g2 := g) cdE_114 rfl ?_
    by_cases hi2 : inb (((4 : Int32) * v2) + v6) 352
    · rw [if_pos hi2] at h
      refine ev_laload (v := .long (g.2 158 (((4 : Int32) * v2) + v6).toNatClampNeg)) rfl (kd_of (show S0[158]? = some (101, 352, List.replicate 352 none) from rfl)) (by decide) hi2 rfl ?_
      refine ev_rn (n := 2) (i2 := 20) (L2 := [some (.ref 157), some (.int v1), some (.int v2), some (.int v3), some (.long v4), none, some (.int v6)]) (st2 := [.long ((g.2 158 (((4 : Int32) * v2) + v6).toNatClampNeg) * v4), .int (v3 + v6), .int v1, .ref 157]) (g2 := g) cdE_114 rfl ?_
      obtain ⟨q3, hq3, h⟩ := Option.bind_eq_some_iff.mp h
      refine ev_call rfl cdE_106 rfl rfl rfl (e_Mo_addsPower v1 (v3 + v6) ((g.2 158 (((4 : Int32) * v2) + v6).toNatClampNeg) * v4)  g hq3) ?_
      refine ev_rn (n := 2) (i2 := 2) (L2 := [some (.ref 157), some (.int v1), some (.int v2), some (.int v3), some (.long v4), none, some (.int (v6 + (1 : Int32)))]) (st2 := []) (g2 := q3) cdE_114 rfl ?_
      cases h
      exact ev_wk (L := [some (.ref 157), some (.int v1), some (.int v2), some (.int v3), some (.long v4), none, some (.int (v6 + (1 : Int32)))]) hb ⟨rfl, ⟨rfl, ⟨rfl, ⟨rfl, ⟨rfl, ⟨rfl, trivial⟩⟩⟩⟩⟩⟩
    · rw [if_neg hi2] at h
      cases h
def f_Mo_addsTurned (p0 : Int32) (p1 : Int32) (p2 : Int32) (p3 : Int64) (g : M2) : Option (M2) := ((lp (fun s => b_Mo_addsTurned_2 p0 p1 p2 p3 s.1 s.2) 5000 ((0 : Int32), g)).bind fun e4 => some e4)
theorem e_Mo_addsTurned {Lx : Nat} (p0 : Int32) (p1 : Int32) (p2 : Int32) (p3 : Int64)  (g : M2) {b : M2} (h : f_Mo_addsTurned p0 p1 p2 p3 g = some b) : Ev Lx 114 cd_114 0 [some (.ref 157), some (.int p0), some (.int p1), some (.int p2), some (.long p3), none] [] g (none, b) := by
  unfold f_Mo_addsTurned at h
  refine ev_rn (n := 2) (i2 := 2) (L2 := [some (.ref 157), some (.int p0), some (.int p1), some (.int p2), some (.long p3), none, some (.int (0 : Int32))]) (st2 := []) (g2 := g) cdE_114 rfl ?_
  obtain ⟨e4, he4, h⟩ := Option.bind_eq_some_iff.mp h
  have hX5 : Ev Lx 114 cd_114 23 [] [] e4 (none, b) := by
    cases h
    exact ev_ret rfl rfl
  exact ev_wk (L := [some (.ref 157), some (.int p0), some (.int p1), some (.int p2), some (.long p3), none, some (.int (0 : Int32))]) (lp_ind (P := (fun (s : (Int32 × M2)) => Ev Lx 114 cd_114 2 [some (.ref 157), some (.int p0), some (.int p1), some (.int p2), some (.long p3), none, some (.int s.1)] [] s.2 (none, b))) (fun s s2 hs hP => tb_Mo_addsTurned_2 p0 p1 p2 p3  s.1 s.2 (b := .inl s2) hs hP) (fun s hs => tb_Mo_addsTurned_2 p0 p1 p2 p3  s.1 s.2 (b := .inr e4) hs hX5) _ _ he4) ⟨rfl, ⟨rfl, ⟨rfl, ⟨rfl, ⟨rfl, ⟨rfl, trivial⟩⟩⟩⟩⟩⟩
def b_Mo_laysGain_5 (v1 : Int32) (v2 : Int32) (v3 : Int32) (g : M2) : Option ((Int32 × M2) ⊕ M2) := (if (g.1 157 8) ≤ v3 then some (.inr g) else (if inb v3 5 then ((f_Mo_addsTurned v1 ((62 : Int32) + v3) (v2 * (g.1 162 v3.toNatClampNeg)) (1 : Int64) g).bind fun q4 => some (.inl ((v3 + (1 : Int32)), q4))) else none))
theorem tb_Mo_laysGain_5 {Lx : Nat} (v1 : Int32) (v2 : Int32)  (v3 : Int32) (g : M2) {b : (Int32 × M2) ⊕ M2} {o : Option Value × M2} (h : b_Mo_laysGain_5 v1 v2 v3 g = some b) (hb : Sum.elim (fun s => Ev Lx 115 cd_115 5 [some (.ref 157), some (.int v1), some (.int v2), some (.int s.1)] [] s.2 o) (fun e => Ev Lx 115 cd_115 24 [] [] e o) b) : Ev Lx 115 cd_115 5 [some (.ref 157), some (.int v1), some (.int v2), some (.int v3)] [] g o := by
  unfold b_Mo_laysGain_5 at h
  refine ev_rn (n := 3) (i2 := 8) (L2 := [some (.ref 157), some (.int v1), some (.int v2), some (.int v3)]) (st2 := [.int (g.1 157 8), .int v3]) (g2 := g) cdE_115 rfl ?_
  by_cases hc2 : (g.1 157 8) ≤ v3
  · rw [if_pos hc2] at h
    refine ev_ift cdE_115 rfl (cn_t hc2) ?_
    cases h
    exact ev_wk (L := []) hb trivial
  · rw [if_neg hc2] at h
    refine ev_iff rfl (cn_f hc2) ?_
    refine ev_rn (n := 9) (i2 := 18) (L2 := [some (.ref 157), some (.int v1), some (.int v2), some (.int v3)]) (st2 := [.int v3, .ref 162, .int v2, .int ((62 : Int32) + v3), .int v1, .ref 157]) (g2 := g) cdE_115 rfl ?_
    by_cases hi3 : inb v3 5
    · rw [if_pos hi3] at h
      refine ev_iaload (v := .int (g.1 162 v3.toNatClampNeg)) rfl (kd_of (show S0[162]? = some (100, 5, List.replicate 5 none) from rfl)) (by decide) hi3 rfl ?_
      refine ev_rn (n := 2) (i2 := 21) (L2 := [some (.ref 157), some (.int v1), some (.int v2), some (.int v3)]) (st2 := [.long (1 : Int64), .int (v2 * (g.1 162 v3.toNatClampNeg)), .int ((62 : Int32) + v3), .int v1, .ref 157]) (g2 := g) cdE_115 rfl ?_
      obtain ⟨q4, hq4, h⟩ := Option.bind_eq_some_iff.mp h
      refine ev_call rfl cdE_114 rfl rfl rfl (e_Mo_addsTurned v1 ((62 : Int32) + v3) (v2 * (g.1 162 v3.toNatClampNeg)) (1 : Int64)  g hq4) ?_
      refine ev_rn (n := 2) (i2 := 5) (L2 := [some (.ref 157), some (.int v1), some (.int v2), some (.int (v3 + (1 : Int32)))]) (st2 := []) (g2 := q4) cdE_115 rfl ?_
      cases h
      exact ev_wk (L := [some (.ref 157), some (.int v1), some (.int v2), some (.int (v3 + (1 : Int32)))]) hb ⟨rfl, ⟨rfl, ⟨rfl, ⟨rfl, trivial⟩⟩⟩⟩
    · rw [if_neg hi3] at h
      cases h
def f_Mo_laysGain (p0 : Int32) (p1 : Int32) (g : M2) : Option (M2) := ((f_Mo_clears p0 g).bind fun q1 => ((lp (fun s => b_Mo_laysGain_5 p0 p1 s.1 s.2) 5000 ((0 : Int32), q1)).bind fun e5 => some e5))
theorem e_Mo_laysGain {Lx : Nat} (p0 : Int32) (p1 : Int32)  (g : M2) {b : M2} (h : f_Mo_laysGain p0 p1 g = some b) : Ev Lx 115 cd_115 0 [some (.ref 157), some (.int p0), some (.int p1)] [] g (none, b) := by
  unfold f_Mo_laysGain at h
  refine ev_rn (n := 2) (i2 := 2) (L2 := [some (.ref 157), some (.int p0), some (.int p1)]) (st2 := [.int p0, .ref 157]) (g2 := g) cdE_115 rfl ?_
  obtain ⟨q1, hq1, h⟩ := Option.bind_eq_some_iff.mp h
  refine ev_call rfl cdE_104 rfl rfl rfl (e_Mo_clears p0  g hq1) ?_
  refine ev_rn (n := 2) (i2 := 5) (L2 := [some (.ref 157), some (.int p0), some (.int p1), some (.int (0 : Int32))]) (st2 := []) (g2 := q1) cdE_115 rfl ?_
  obtain ⟨e5, he5, h⟩ := Option.bind_eq_some_iff.mp h
  have hX6 : Ev Lx 115 cd_115 24 [] [] e5 (none, b) := by
    cases h
    exact ev_ret rfl rfl
  exact ev_wk (L := [some (.ref 157), some (.int p0), some (.int p1), some (.int (0 : Int32))]) (lp_ind (P := (fun (s : (Int32 × M2)) => Ev Lx 115 cd_115 5 [some (.ref 157), some (.int p0), some (.int p1), some (.int s.1)] [] s.2 (none, b))) (fun s s2 hs hP => tb_Mo_laysGain_5 p0 p1  s.1 s.2 (b := .inl s2) hs hP) (fun s hs => tb_Mo_laysGain_5 p0 p1  s.1 s.2 (b := .inr e5) hs hX6) _ _ he5) ⟨rfl, ⟨rfl, ⟨rfl, ⟨rfl, trivial⟩⟩⟩⟩
def b_Mo_solves_83 (v1 : Int32) (v6 : Int32) (g : M2) : Option ((Int32 × M2) ⊕ M2) := (if (g.1 157 14) ≤ v6 then some (.inr g) else ((f_Mo_clears ((57 : Int32) + v6) g).bind fun q16 => (if (v6 - v6 / (2 : Int32) * (2 : Int32)) = 0 then ((f_Mo_adds ((57 : Int32) + v6) ((25 : Int32) + (v1 &&& (((1 : Int32) <<< (v6 &&& 31)) ^^^ (-1 : Int32)))) (1 : Int64) q16).bind fun q19 => some (.inl ((v6 + (1 : Int32)), q19))) else ((f_Mo_adds ((57 : Int32) + v6) ((25 : Int32) + (v1 &&& (((1 : Int32) <<< (v6 &&& 31)) ^^^ (-1 : Int32)))) (-1 : Int64) q16).bind fun q18 => some (.inl ((v6 + (1 : Int32)), q18))))))
theorem tb_Mo_solves_83 {Lx : Nat} (v1 : Int32)  (v6 : Int32) (g : M2) {b : (Int32 × M2) ⊕ M2} {o : Option Value × M2} (h : b_Mo_solves_83 v1 v6 g = some b) (hb : Sum.elim (fun s => Ev Lx 116 cd_116 83 [some (.ref 157), some (.int v1), none, none, none, none, some (.int s.1)] [] s.2 o) (fun e => Ev Lx 116 cd_116 115 [some (.ref 157)] [] e o) b) : Ev Lx 116 cd_116 83 [some (.ref 157), some (.int v1), none, none, none, none, some (.int v6)] [] g o := by
  unfold b_Mo_solves_83 at h
  refine ev_rn (n := 3) (i2 := 86) (L2 := [some (.ref 157), some (.int v1), none, none, none, none, some (.int v6)]) (st2 := [.int (g.1 157 14), .int v6]) (g2 := g) cdE_116 rfl ?_
  by_cases hc15 : (g.1 157 14) ≤ v6
  · rw [if_pos hc15] at h
    refine ev_ift cdE_116 rfl (cn_t hc15) ?_
    cases h
    exact ev_wk (L := [some (.ref 157)]) hb ⟨rfl, trivial⟩
  · rw [if_neg hc15] at h
    refine ev_iff rfl (cn_f hc15) ?_
    refine ev_rn (n := 4) (i2 := 91) (L2 := [some (.ref 157), some (.int v1), none, none, none, none, some (.int v6)]) (st2 := [.int ((57 : Int32) + v6), .ref 157]) (g2 := g) cdE_116 rfl ?_
    obtain ⟨q16, hq16, h⟩ := Option.bind_eq_some_iff.mp h
    refine ev_call rfl cdE_104 rfl rfl rfl (e_Mo_clears ((57 : Int32) + v6)  g hq16) ?_
    refine ev_rn (n := 15) (i2 := 107) (L2 := [some (.ref 157), some (.int v1), none, none, none, none, some (.int v6)]) (st2 := [.int (2 : Int32), .int v6, .int ((25 : Int32) + (v1 &&& (((1 : Int32) <<< (v6 &&& 31)) ^^^ (-1 : Int32)))), .int ((57 : Int32) + v6), .ref 157]) (g2 := q16) cdE_116 rfl ?_
    refine ev_irem rfl (by decide) ?_
    by_cases hc17 : (v6 - v6 / (2 : Int32) * (2 : Int32)) = 0
    · rw [if_pos hc17] at h
      refine ev_zff rfl (cn_f (fun q => q hc17)) ?_
      refine ev_rn (n := 2) (i2 := 112) (L2 := [some (.ref 157), some (.int v1), none, none, none, none, some (.int v6)]) (st2 := [.long (1 : Int64), .int ((25 : Int32) + (v1 &&& (((1 : Int32) <<< (v6 &&& 31)) ^^^ (-1 : Int32)))), .int ((57 : Int32) + v6), .ref 157]) (g2 := q16) cdE_116 rfl ?_
      obtain ⟨q19, hq19, h⟩ := Option.bind_eq_some_iff.mp h
      refine ev_call rfl cdE_113 rfl rfl rfl (e_Mo_adds ((57 : Int32) + v6) ((25 : Int32) + (v1 &&& (((1 : Int32) <<< (v6 &&& 31)) ^^^ (-1 : Int32)))) (1 : Int64)  q16 hq19) ?_
      refine ev_rn (n := 2) (i2 := 83) (L2 := [some (.ref 157), some (.int v1), none, none, none, none, some (.int (v6 + (1 : Int32)))]) (st2 := []) (g2 := q19) cdE_116 rfl ?_
      cases h
      exact ev_wk (L := [some (.ref 157), some (.int v1), none, none, none, none, some (.int (v6 + (1 : Int32)))]) hb ⟨rfl, ⟨rfl, ⟨rfl, trivial⟩⟩⟩
    · rw [if_neg hc17] at h
      refine ev_zft cdE_116 rfl (cn_t hc17) ?_
      refine ev_rn (n := 1) (i2 := 112) (L2 := [some (.ref 157), some (.int v1), none, none, none, none, some (.int v6)]) (st2 := [.long (-1 : Int64), .int ((25 : Int32) + (v1 &&& (((1 : Int32) <<< (v6 &&& 31)) ^^^ (-1 : Int32)))), .int ((57 : Int32) + v6), .ref 157]) (g2 := q16) cdE_116 rfl ?_
      obtain ⟨q18, hq18, h⟩ := Option.bind_eq_some_iff.mp h
      refine ev_call rfl cdE_113 rfl rfl rfl (e_Mo_adds ((57 : Int32) + v6) ((25 : Int32) + (v1 &&& (((1 : Int32) <<< (v6 &&& 31)) ^^^ (-1 : Int32)))) (-1 : Int64)  q16 hq18) ?_
      refine ev_rn (n := 2) (i2 := 83) (L2 := [some (.ref 157), some (.int v1), none, none, none, none, some (.int (v6 + (1 : Int32)))]) (st2 := []) (g2 := q18) cdE_116 rfl ?_
      cases h
      exact ev_wk (L := [some (.ref 157), some (.int v1), none, none, none, none, some (.int (v6 + (1 : Int32)))]) hb ⟨rfl, ⟨rfl, ⟨rfl, trivial⟩⟩⟩
def b_Mo_solves_148 (v6 : Int32) (v7 : Int32) (g : M2) : Option ((Int32 × M2) ⊕ M2) := (if (g.1 157 14) ≤ v7 then some (.inr g) else (if inb v7 5 then (if inb (g.1 165 v7.toNatClampNeg) 5 then (if inb v6 5 then ((f_Mo_addsTurned (81 : Int32) ((57 : Int32) + v7) ((-(g.1 163 (g.1 165 v7.toNatClampNeg).toNatClampNeg)) * (g.1 162 v6.toNatClampNeg)) (1 : Int64) g).bind fun q33 => some (.inl ((v7 + (1 : Int32)), q33))) else none) else none) else none))
theorem tb_Mo_solves_148 {Lx : Nat} (v6 : Int32)  (v7 : Int32) (g : M2) {b : (Int32 × M2) ⊕ M2} {o : Option Value × M2} (h : b_Mo_solves_148 v6 v7 g = some b) (hb : Sum.elim (fun s => Ev Lx 116 cd_116 148 [some (.ref 157), none, none, none, none, none, some (.int v6), some (.int s.1)] [] s.2 o) (fun e => Ev Lx 116 cd_116 174 [some (.ref 157), none, none, none, none, none, some (.int v6)] [] e o) b) : Ev Lx 116 cd_116 148 [some (.ref 157), none, none, none, none, none, some (.int v6), some (.int v7)] [] g o := by
  unfold b_Mo_solves_148 at h
  refine ev_rn (n := 3) (i2 := 151) (L2 := [some (.ref 157), none, none, none, none, none, some (.int v6), some (.int v7)]) (st2 := [.int (g.1 157 14), .int v7]) (g2 := g) cdE_116 rfl ?_
  by_cases hc29 : (g.1 157 14) ≤ v7
  · rw [if_pos hc29] at h
    refine ev_ift cdE_116 rfl (cn_t hc29) ?_
    cases h
    exact ev_wk (L := [some (.ref 157), none, none, none, none, none, some (.int v6)]) hb ⟨rfl, ⟨rfl, trivial⟩⟩
  · rw [if_neg hc29] at h
    refine ev_iff rfl (cn_f hc29) ?_
    refine ev_rn (n := 10) (i2 := 162) (L2 := [some (.ref 157), none, none, none, none, none, some (.int v6), some (.int v7)]) (st2 := [.int v7, .ref 165, .ref 163, .int ((57 : Int32) + v7), .int (81 : Int32), .ref 157]) (g2 := g) cdE_116 rfl ?_
    by_cases hi30 : inb v7 5
    · rw [if_pos hi30] at h
      refine ev_iaload (v := .int (g.1 165 v7.toNatClampNeg)) rfl (kd_of (show S0[165]? = some (100, 5, List.replicate 5 none) from rfl)) (by decide) hi30 rfl ?_
      by_cases hi31 : inb (g.1 165 v7.toNatClampNeg) 5
      · rw [if_pos hi31] at h
        refine ev_iaload (v := .int (g.1 163 (g.1 165 v7.toNatClampNeg).toNatClampNeg)) rfl (kd_of (show S0[163]? = some (100, 5, List.replicate 5 none) from rfl)) (by decide) hi31 rfl ?_
        refine ev_rn (n := 4) (i2 := 168) (L2 := [some (.ref 157), none, none, none, none, none, some (.int v6), some (.int v7)]) (st2 := [.int v6, .ref 162, .int (-(g.1 163 (g.1 165 v7.toNatClampNeg).toNatClampNeg)), .int ((57 : Int32) + v7), .int (81 : Int32), .ref 157]) (g2 := g) cdE_116 rfl ?_
        by_cases hi32 : inb v6 5
        · rw [if_pos hi32] at h
          refine ev_iaload (v := .int (g.1 162 v6.toNatClampNeg)) rfl (kd_of (show S0[162]? = some (100, 5, List.replicate 5 none) from rfl)) (by decide) hi32 rfl ?_
          refine ev_rn (n := 2) (i2 := 171) (L2 := [some (.ref 157), none, none, none, none, none, some (.int v6), some (.int v7)]) (st2 := [.long (1 : Int64), .int ((-(g.1 163 (g.1 165 v7.toNatClampNeg).toNatClampNeg)) * (g.1 162 v6.toNatClampNeg)), .int ((57 : Int32) + v7), .int (81 : Int32), .ref 157]) (g2 := g) cdE_116 rfl ?_
          obtain ⟨q33, hq33, h⟩ := Option.bind_eq_some_iff.mp h
          refine ev_call rfl cdE_114 rfl rfl rfl (e_Mo_addsTurned (81 : Int32) ((57 : Int32) + v7) ((-(g.1 163 (g.1 165 v7.toNatClampNeg).toNatClampNeg)) * (g.1 162 v6.toNatClampNeg)) (1 : Int64)  g hq33) ?_
          refine ev_rn (n := 2) (i2 := 148) (L2 := [some (.ref 157), none, none, none, none, none, some (.int v6), some (.int (v7 + (1 : Int32)))]) (st2 := []) (g2 := q33) cdE_116 rfl ?_
          cases h
          exact ev_wk (L := [some (.ref 157), none, none, none, none, none, some (.int v6), some (.int (v7 + (1 : Int32)))]) hb ⟨rfl, ⟨rfl, ⟨rfl, trivial⟩⟩⟩
        · rw [if_neg hi32] at h
          cases h
      · rw [if_neg hi31] at h
        cases h
    · rw [if_neg hi30] at h
      cases h
def b_Mo_solves_139  (v6 : Int32) (g : M2) : Option ((Int32 × M2) ⊕ M2) := (if (g.1 157 8) ≤ v6 then some (.inr g) else ((f_Mo_clears (81 : Int32) g).bind fun q28 => ((lp (fun s => b_Mo_solves_148 v6 s.1 s.2) 5000 ((0 : Int32), q28)).bind fun e34 => ((f_Mo_clears ((62 : Int32) + v6) e34).bind fun q35 => ((f_Mo_addsProduct ((62 : Int32) + v6) (81 : Int32) (79 : Int32) (1 : Int64) q35).bind fun q36 => some (.inl ((v6 + (1 : Int32)), q36)))))))
theorem tb_Mo_solves_139 {Lx : Nat}   (v6 : Int32) (g : M2) {b : (Int32 × M2) ⊕ M2} {o : Option Value × M2} (h : b_Mo_solves_139 v6 g = some b) (hb : Sum.elim (fun s => Ev Lx 116 cd_116 139 [some (.ref 157), none, none, none, none, none, some (.int s.1)] [] s.2 o) (fun e => Ev Lx 116 cd_116 189 [some (.ref 157)] [] e o) b) : Ev Lx 116 cd_116 139 [some (.ref 157), none, none, none, none, none, some (.int v6)] [] g o := by
  unfold b_Mo_solves_139 at h
  refine ev_rn (n := 3) (i2 := 142) (L2 := [some (.ref 157), none, none, none, none, none, some (.int v6)]) (st2 := [.int (g.1 157 8), .int v6]) (g2 := g) cdE_116 rfl ?_
  by_cases hc27 : (g.1 157 8) ≤ v6
  · rw [if_pos hc27] at h
    refine ev_ift cdE_116 rfl (cn_t hc27) ?_
    cases h
    exact ev_wk (L := [some (.ref 157)]) hb ⟨rfl, trivial⟩
  · rw [if_neg hc27] at h
    refine ev_iff rfl (cn_f hc27) ?_
    refine ev_rn (n := 2) (i2 := 145) (L2 := [some (.ref 157), none, none, none, none, none, some (.int v6)]) (st2 := [.int (81 : Int32), .ref 157]) (g2 := g) cdE_116 rfl ?_
    obtain ⟨q28, hq28, h⟩ := Option.bind_eq_some_iff.mp h
    refine ev_call rfl cdE_104 rfl rfl rfl (e_Mo_clears (81 : Int32)  g hq28) ?_
    refine ev_rn (n := 2) (i2 := 148) (L2 := [some (.ref 157), none, none, none, none, none, some (.int v6), some (.int (0 : Int32))]) (st2 := []) (g2 := q28) cdE_116 rfl ?_
    obtain ⟨e34, he34, h⟩ := Option.bind_eq_some_iff.mp h
    have hX37 : Ev Lx 116 cd_116 174 [some (.ref 157), none, none, none, none, none, some (.int v6)] [] e34 o := by
      refine ev_rn (n := 4) (i2 := 178) (L2 := [some (.ref 157), none, none, none, none, none, some (.int v6)]) (st2 := [.int ((62 : Int32) + v6), .ref 157]) (g2 := e34) cdE_116 rfl ?_
      obtain ⟨q35, hq35, h⟩ := Option.bind_eq_some_iff.mp h
      refine ev_call rfl cdE_104 rfl rfl rfl (e_Mo_clears ((62 : Int32) + v6)  e34 hq35) ?_
      refine ev_rn (n := 7) (i2 := 186) (L2 := [some (.ref 157), none, none, none, none, none, some (.int v6)]) (st2 := [.long (1 : Int64), .int (79 : Int32), .int (81 : Int32), .int ((62 : Int32) + v6), .ref 157]) (g2 := q35) cdE_116 rfl ?_
      obtain ⟨q36, hq36, h⟩ := Option.bind_eq_some_iff.mp h
      refine ev_call rfl cdE_108 rfl rfl rfl (e_Mo_addsProduct ((62 : Int32) + v6) (81 : Int32) (79 : Int32) (1 : Int64)  q35 hq36) ?_
      refine ev_rn (n := 2) (i2 := 139) (L2 := [some (.ref 157), none, none, none, none, none, some (.int (v6 + (1 : Int32)))]) (st2 := []) (g2 := q36) cdE_116 rfl ?_
      cases h
      exact ev_wk (L := [some (.ref 157), none, none, none, none, none, some (.int (v6 + (1 : Int32)))]) hb ⟨rfl, ⟨rfl, trivial⟩⟩
    exact ev_wk (L := [some (.ref 157), none, none, none, none, none, some (.int v6), some (.int (0 : Int32))]) (lp_ind (P := (fun (s : (Int32 × M2)) => Ev Lx 116 cd_116 148 [some (.ref 157), none, none, none, none, none, some (.int v6), some (.int s.1)] [] s.2 o)) (fun s s2 hs hP => tb_Mo_solves_148 v6  s.1 s.2 (b := .inl s2) hs hP) (fun s hs => tb_Mo_solves_148 v6  s.1 s.2 (b := .inr e34) hs hX37) _ _ he34) ⟨rfl, ⟨rfl, ⟨rfl, trivial⟩⟩⟩
def b_Mo_solves_191  (v6 : Int32) (g : M2) : Option ((Int32 × M2) ⊕ M2) := (if (12 : Int32) ≤ v6 then some (.inr g) else ((f_Mo_laysGain ((67 : Int32) + v6) v6 g).bind fun q40 => some (.inl ((v6 + (1 : Int32)), q40))))
theorem tb_Mo_solves_191 {Lx : Nat}   (v6 : Int32) (g : M2) {b : (Int32 × M2) ⊕ M2} {o : Option Value × M2} (h : b_Mo_solves_191 v6 g = some b) (hb : Sum.elim (fun s => Ev Lx 116 cd_116 191 [some (.ref 157), none, none, none, none, none, some (.int s.1)] [] s.2 o) (fun e => Ev Lx 116 cd_116 202 [some (.ref 157)] [] e o) b) : Ev Lx 116 cd_116 191 [some (.ref 157), none, none, none, none, none, some (.int v6)] [] g o := by
  unfold b_Mo_solves_191 at h
  refine ev_rn (n := 2) (i2 := 193) (L2 := [some (.ref 157), none, none, none, none, none, some (.int v6)]) (st2 := [.int (12 : Int32), .int v6]) (g2 := g) cdE_116 rfl ?_
  by_cases hc39 : (12 : Int32) ≤ v6
  · rw [if_pos hc39] at h
    refine ev_ift cdE_116 rfl (cn_t hc39) ?_
    cases h
    exact ev_wk (L := [some (.ref 157)]) hb ⟨rfl, trivial⟩
  · rw [if_neg hc39] at h
    refine ev_iff rfl (cn_f hc39) ?_
    refine ev_rn (n := 5) (i2 := 199) (L2 := [some (.ref 157), none, none, none, none, none, some (.int v6)]) (st2 := [.int v6, .int ((67 : Int32) + v6), .ref 157]) (g2 := g) cdE_116 rfl ?_
    obtain ⟨q40, hq40, h⟩ := Option.bind_eq_some_iff.mp h
    refine ev_call rfl cdE_115 rfl rfl rfl (e_Mo_laysGain ((67 : Int32) + v6) v6  g hq40) ?_
    refine ev_rn (n := 2) (i2 := 191) (L2 := [some (.ref 157), none, none, none, none, none, some (.int (v6 + (1 : Int32)))]) (st2 := []) (g2 := q40) cdE_116 rfl ?_
    cases h
    exact ev_wk (L := [some (.ref 157), none, none, none, none, none, some (.int (v6 + (1 : Int32)))]) hb ⟨rfl, ⟨rfl, trivial⟩⟩
def b_Mo_solves_207  (v6 : Int32) (g : M2) : Option ((Int32 × M2) ⊕ M2) := (if (g.1 157 10) ≤ v6 then some (.inr g) else (if inb v6 5 then (if (g.1 164 v6.toNatClampNeg) = 0 then some (.inl ((v6 + (1 : Int32)), g)) else (if inb v6 5 then ((f_Mo_isNought ((67 : Int32) + (g.1 163 v6.toNatClampNeg)) g).bind fun q47 => (if q47 = 0 then (bd (uI g 157 15 (0 : Int32)) fun g49 => some (.inl ((v6 + (1 : Int32)), g49))) else some (.inl ((v6 + (1 : Int32)), g)))) else none)) else none))
theorem tb_Mo_solves_207 {Lx : Nat}   (v6 : Int32) (g : M2) {b : (Int32 × M2) ⊕ M2} {o : Option Value × M2} (h : b_Mo_solves_207 v6 g = some b) (hb : Sum.elim (fun s => Ev Lx 116 cd_116 207 [some (.ref 157), none, none, none, none, none, some (.int s.1)] [] s.2 o) (fun e => Ev Lx 116 cd_116 230 [] [] e o) b) : Ev Lx 116 cd_116 207 [some (.ref 157), none, none, none, none, none, some (.int v6)] [] g o := by
  unfold b_Mo_solves_207 at h
  refine ev_rn (n := 3) (i2 := 210) (L2 := [some (.ref 157), none, none, none, none, none, some (.int v6)]) (st2 := [.int (g.1 157 10), .int v6]) (g2 := g) cdE_116 rfl ?_
  by_cases hc43 : (g.1 157 10) ≤ v6
  · rw [if_pos hc43] at h
    refine ev_ift cdE_116 rfl (cn_t hc43) ?_
    cases h
    exact ev_wk (L := []) hb trivial
  · rw [if_neg hc43] at h
    refine ev_iff rfl (cn_f hc43) ?_
    refine ev_rn (n := 3) (i2 := 214) (L2 := [some (.ref 157), none, none, none, none, none, some (.int v6)]) (st2 := [.int v6, .ref 164]) (g2 := g) cdE_116 rfl ?_
    by_cases hi44 : inb v6 5
    · rw [if_pos hi44] at h
      refine ev_baload (v := .int (g.1 164 v6.toNatClampNeg)) rfl (kd_of (show S0[164]? = some (103, 5, List.replicate 5 none) from rfl)) (by decide) hi44 rfl ?_
      by_cases hc45 : (g.1 164 v6.toNatClampNeg) = 0
      · rw [if_pos hc45] at h
        refine ev_zft cdE_116 rfl (cn_t hc45) ?_
        refine ev_rn (n := 2) (i2 := 207) (L2 := [some (.ref 157), none, none, none, none, none, some (.int (v6 + (1 : Int32)))]) (st2 := []) (g2 := g) cdE_116 rfl ?_
        cases h
        exact ev_wk (L := [some (.ref 157), none, none, none, none, none, some (.int (v6 + (1 : Int32)))]) hb ⟨rfl, ⟨rfl, trivial⟩⟩
      · rw [if_neg hc45] at h
        refine ev_zff rfl (cn_f hc45) ?_
        refine ev_rn (n := 5) (i2 := 221) (L2 := [some (.ref 157), none, none, none, none, none, some (.int v6)]) (st2 := [.int v6, .ref 163, .int (67 : Int32), .ref 157]) (g2 := g) cdE_116 rfl ?_
        by_cases hi46 : inb v6 5
        · rw [if_pos hi46] at h
          refine ev_iaload (v := .int (g.1 163 v6.toNatClampNeg)) rfl (kd_of (show S0[163]? = some (100, 5, List.replicate 5 none) from rfl)) (by decide) hi46 rfl ?_
          refine ev_rn (n := 1) (i2 := 223) (L2 := [some (.ref 157), none, none, none, none, none, some (.int v6)]) (st2 := [.int ((67 : Int32) + (g.1 163 v6.toNatClampNeg)), .ref 157]) (g2 := g) cdE_116 rfl ?_
          obtain ⟨q47, hq47, h⟩ := Option.bind_eq_some_iff.mp h
          refine ev_call rfl cdE_111 rfl rfl rfl (e_Mo_isNought ((67 : Int32) + (g.1 163 v6.toNatClampNeg))  g hq47) ?_
          by_cases hc48 : q47 = 0
          · rw [if_pos hc48] at h
            refine ev_zff rfl (cn_f (fun q => q hc48)) ?_
            refine ev_rn (n := 2) (i2 := 227) (L2 := [some (.ref 157), none, none, none, none, none, some (.int v6)]) (st2 := [.int (0 : Int32), .ref 157]) (g2 := g) cdE_116 rfl ?_
            refine bd_elim h (fun g49 hg49 h => ?_)
            refine ev_pf (g2 := g49) rfl (rfl : S0[157]? = some _) (by decide) (by rw [hg49] <;> rfl) ?_
            refine ev_rn (n := 2) (i2 := 207) (L2 := [some (.ref 157), none, none, none, none, none, some (.int (v6 + (1 : Int32)))]) (st2 := []) (g2 := g49) cdE_116 rfl ?_
            cases h
            exact ev_wk (L := [some (.ref 157), none, none, none, none, none, some (.int (v6 + (1 : Int32)))]) hb ⟨rfl, ⟨rfl, trivial⟩⟩
          · rw [if_neg hc48] at h
            refine ev_zft cdE_116 rfl (cn_t hc48) ?_
            refine ev_rn (n := 2) (i2 := 207) (L2 := [some (.ref 157), none, none, none, none, none, some (.int (v6 + (1 : Int32)))]) (st2 := []) (g2 := g) cdE_116 rfl ?_
            cases h
            exact ev_wk (L := [some (.ref 157), none, none, none, none, none, some (.int (v6 + (1 : Int32)))]) hb ⟨rfl, ⟨rfl, trivial⟩⟩
        · rw [if_neg hi46] at h
          cases h
    · rw [if_neg hi44] at h
      cases h
def f_Mo_solves  (g : M2) : Option (M2) := ((f_Mo_findsRank g).bind fun q1 => (bd (uI q1 157 15 (0 : Int32)) fun g2 => (if (g2.1 157 11) = 0 then some g2 else (if (g2.1 164 0) = 0 then ((f_Mo_laysGram (g2.1 157 14) g2).bind fun q5 => ((f_Mo_laysDeterminants (0 : Int32) (q5.1 157 14) q5).bind fun q6 => ((f_Mo_part ((25 : Int32) + (((1 : Int32) <<< ((q6.1 157 14) &&& 31)) - (1 : Int32))) (0 : Int32) q6).bind fun q7 => ((f_Mo_part ((25 : Int32) + (((1 : Int32) <<< ((q6.1 157 14) &&& 31)) - (1 : Int32))) (3 : Int32) q6).bind fun q8 => (bd (uJ q6 157 16 ((q7 * q7) - (((3 : Int64) * (-q8)) * (-q8)))) fun g9 => ((f_Mo_clears (79 : Int32) g9).bind fun q10 => (bd (uJ q10 158 316 q7) fun g11 => (bd (uJ g11 158 317 ((-2 : Int64) * (-q8))) fun g12 => (bd (uJ g12 158 319 (-q8)) fun g13 => ((f_Mo_laysDeterminants (1 : Int32) (g13.1 157 14) g13).bind fun q14 => ((lp (fun s => b_Mo_solves_83 (((1 : Int32) <<< ((q6.1 157 14) &&& 31)) - (1 : Int32)) s.1 s.2) 5000 ((0 : Int32), q14)).bind fun e20 => ((f_Mo_clears (81 : Int32) e20).bind fun q21 => ((f_Mo_addsProduct (81 : Int32) (57 : Int32) (79 : Int32) (1 : Int64) q21).bind fun q22 => ((f_Mo_part (81 : Int32) (0 : Int32) q22).bind fun q23 => (bd (uJ q22 157 17 q23) fun g24 => ((f_Mo_part (81 : Int32) (3 : Int32) g24).bind fun q25 => (bd (uJ g24 157 18 (-q25)) fun g26 => ((lp (fun s => b_Mo_solves_139  s.1 s.2) 5000 ((0 : Int32), g26)).bind fun e38 => ((lp (fun s => b_Mo_solves_191  s.1 s.2) 5000 ((0 : Int32), e38)).bind fun e41 => (bd (uI e41 157 15 (1 : Int32)) fun g42 => ((lp (fun s => b_Mo_solves_207  s.1 s.2) 5000 ((0 : Int32), g42)).bind fun e50 => some e50))))))))))))))))))))) else some g2))))
theorem e_Mo_solves {Lx : Nat}   (g : M2) {b : M2} (h : f_Mo_solves  g = some b) : Ev Lx 116 cd_116 0 [some (.ref 157)] [] g (none, b) := by
  unfold f_Mo_solves at h
  refine ev_rn (n := 1) (i2 := 1) (L2 := [some (.ref 157)]) (st2 := [.ref 157]) (g2 := g) cdE_116 rfl ?_
  obtain ⟨q1, hq1, h⟩ := Option.bind_eq_some_iff.mp h
  refine ev_call rfl cdE_112 rfl rfl rfl (e_Mo_findsRank   g hq1) ?_
  refine ev_rn (n := 2) (i2 := 4) (L2 := [some (.ref 157)]) (st2 := [.int (0 : Int32), .ref 157]) (g2 := q1) cdE_116 rfl ?_
  refine bd_elim h (fun g2 hg2 h => ?_)
  refine ev_pf (g2 := g2) rfl (rfl : S0[157]? = some _) (by decide) (by rw [hg2] <;> rfl) ?_
  refine ev_rn (n := 2) (i2 := 7) (L2 := [some (.ref 157)]) (st2 := [.int (g2.1 157 11)]) (g2 := g2) cdE_116 rfl ?_
  by_cases hc3 : (g2.1 157 11) = 0
  · rw [if_pos hc3] at h
    refine ev_zft cdE_116 rfl (cn_t hc3) ?_
    cases h
    exact ev_ret rfl rfl
  · rw [if_neg hc3] at h
    refine ev_zff rfl (cn_f hc3) ?_
    refine ev_rn (n := 3) (i2 := 11) (L2 := [some (.ref 157)]) (st2 := [.int (0 : Int32), .ref 164]) (g2 := g2) cdE_116 rfl ?_
    refine ev_baload (v := .int (g2.1 164 0)) rfl (kd_of (show S0[164]? = some (103, 5, List.replicate 5 none) from rfl)) (by decide) ⟨by decide, by decide⟩ rfl ?_
    by_cases hc4 : (g2.1 164 0) = 0
    · rw [if_pos hc4] at h
      refine ev_zft cdE_116 rfl (cn_t hc4) ?_
      refine ev_rn (n := 3) (i2 := 17) (L2 := [some (.ref 157)]) (st2 := [.int (g2.1 157 14), .ref 157]) (g2 := g2) cdE_116 rfl ?_
      obtain ⟨q5, hq5, h⟩ := Option.bind_eq_some_iff.mp h
      refine ev_call rfl cdE_107 rfl rfl rfl (e_Mo_laysGram (g2.1 157 14)  g2 hq5) ?_
      refine ev_rn (n := 4) (i2 := 22) (L2 := [some (.ref 157)]) (st2 := [.int (q5.1 157 14), .int (0 : Int32), .ref 157]) (g2 := q5) cdE_116 rfl ?_
      obtain ⟨q6, hq6, h⟩ := Option.bind_eq_some_iff.mp h
      refine ev_call rfl cdE_109 rfl rfl rfl (e_Mo_laysDeterminants (0 : Int32) (q5.1 157 14)  q5 hq6) ?_
      refine ev_rn (n := 12) (i2 := 35) (L2 := [some (.ref 157), some (.int (((1 : Int32) <<< ((q6.1 157 14) &&& 31)) - (1 : Int32)))]) (st2 := [.int (0 : Int32), .int ((25 : Int32) + (((1 : Int32) <<< ((q6.1 157 14) &&& 31)) - (1 : Int32))), .ref 157]) (g2 := q6) cdE_116 rfl ?_
      obtain ⟨q7, hq7, h⟩ := Option.bind_eq_some_iff.mp h
      refine ev_call rfl cdE_110 rfl rfl rfl (e_Mo_part ((25 : Int32) + (((1 : Int32) <<< ((q6.1 157 14) &&& 31)) - (1 : Int32))) (0 : Int32)  q6 hq7) ?_
      refine ev_rn (n := 1) (i2 := 37) (L2 := [some (.ref 157), some (.int (((1 : Int32) <<< ((q6.1 157 14) &&& 31)) - (1 : Int32))), some (.long q7), none]) (st2 := []) (g2 := q6) cdE_116 rfl ?_
      refine ev_rn (n := 5) (i2 := 42) (L2 := [some (.ref 157), some (.int (((1 : Int32) <<< ((q6.1 157 14) &&& 31)) - (1 : Int32))), some (.long q7), none]) (st2 := [.int (3 : Int32), .int ((25 : Int32) + (((1 : Int32) <<< ((q6.1 157 14) &&& 31)) - (1 : Int32))), .ref 157]) (g2 := q6) cdE_116 rfl ?_
      obtain ⟨q8, hq8, h⟩ := Option.bind_eq_some_iff.mp h
      refine ev_call rfl cdE_110 rfl rfl rfl (e_Mo_part ((25 : Int32) + (((1 : Int32) <<< ((q6.1 157 14) &&& 31)) - (1 : Int32))) (3 : Int32)  q6 hq8) ?_
      refine ev_rn (n := 2) (i2 := 45) (L2 := [some (.ref 157), some (.int (((1 : Int32) <<< ((q6.1 157 14) &&& 31)) - (1 : Int32))), some (.long q7), none, some (.long (-q8)), none]) (st2 := []) (g2 := q6) cdE_116 rfl ?_
      refine ev_rn (n := 10) (i2 := 55) (L2 := [some (.ref 157), some (.int (((1 : Int32) <<< ((q6.1 157 14) &&& 31)) - (1 : Int32))), some (.long q7), none, some (.long (-q8)), none]) (st2 := [.long ((q7 * q7) - (((3 : Int64) * (-q8)) * (-q8))), .ref 157]) (g2 := q6) cdE_116 rfl ?_
      refine bd_elim h (fun g9 hg9 h => ?_)
      refine ev_pf (g2 := g9) rfl (rfl : S0[157]? = some _) (by decide) (by rw [hg9] <;> rfl) ?_
      refine ev_rn (n := 2) (i2 := 58) (L2 := [some (.ref 157), some (.int (((1 : Int32) <<< ((q6.1 157 14) &&& 31)) - (1 : Int32))), some (.long q7), none, some (.long (-q8)), none]) (st2 := [.int (79 : Int32), .ref 157]) (g2 := g9) cdE_116 rfl ?_
      obtain ⟨q10, hq10, h⟩ := Option.bind_eq_some_iff.mp h
      refine ev_call rfl cdE_104 rfl rfl rfl (e_Mo_clears (79 : Int32)  g9 hq10) ?_
      refine ev_rn (n := 4) (i2 := 63) (L2 := [some (.ref 157), some (.int (((1 : Int32) <<< ((q6.1 157 14) &&& 31)) - (1 : Int32))), some (.long q7), none, some (.long (-q8)), none]) (st2 := [.long q7, .int (316 : Int32), .ref 158]) (g2 := q10) cdE_116 rfl ?_
      refine bd_elim h (fun g11 hg11 h => ?_)
      refine ev_lastore (g2 := g11) rfl (show S0[158]? = some (101, 352, List.replicate 352 none) from rfl) (by decide) ⟨by decide, by decide⟩ (by rw [hg11] <;> rfl) ?_
      refine ev_rn (n := 6) (i2 := 70) (L2 := [some (.ref 157), some (.int (((1 : Int32) <<< ((q6.1 157 14) &&& 31)) - (1 : Int32))), some (.long q7), none, some (.long (-q8)), none]) (st2 := [.long ((-2 : Int64) * (-q8)), .int (317 : Int32), .ref 158]) (g2 := g11) cdE_116 rfl ?_
      refine bd_elim h (fun g12 hg12 h => ?_)
      refine ev_lastore (g2 := g12) rfl (show S0[158]? = some (101, 352, List.replicate 352 none) from rfl) (by decide) ⟨by decide, by decide⟩ (by rw [hg12] <;> rfl) ?_
      refine ev_rn (n := 4) (i2 := 75) (L2 := [some (.ref 157), some (.int (((1 : Int32) <<< ((q6.1 157 14) &&& 31)) - (1 : Int32))), some (.long q7), none, some (.long (-q8)), none]) (st2 := [.long (-q8), .int (319 : Int32), .ref 158]) (g2 := g12) cdE_116 rfl ?_
      refine bd_elim h (fun g13 hg13 h => ?_)
      refine ev_lastore (g2 := g13) rfl (show S0[158]? = some (101, 352, List.replicate 352 none) from rfl) (by decide) ⟨by decide, by decide⟩ (by rw [hg13] <;> rfl) ?_
      refine ev_rn (n := 4) (i2 := 80) (L2 := [some (.ref 157), some (.int (((1 : Int32) <<< ((q6.1 157 14) &&& 31)) - (1 : Int32))), some (.long q7), none, some (.long (-q8)), none]) (st2 := [.int (g13.1 157 14), .int (1 : Int32), .ref 157]) (g2 := g13) cdE_116 rfl ?_
      obtain ⟨q14, hq14, h⟩ := Option.bind_eq_some_iff.mp h
      refine ev_call rfl cdE_109 rfl rfl rfl (e_Mo_laysDeterminants (1 : Int32) (g13.1 157 14)  g13 hq14) ?_
      refine ev_rn (n := 2) (i2 := 83) (L2 := [some (.ref 157), some (.int (((1 : Int32) <<< ((q6.1 157 14) &&& 31)) - (1 : Int32))), some (.long q7), none, some (.long (-q8)), none, some (.int (0 : Int32))]) (st2 := []) (g2 := q14) cdE_116 rfl ?_
      obtain ⟨e20, he20, h⟩ := Option.bind_eq_some_iff.mp h
      have hX54 : Ev Lx 116 cd_116 115 [some (.ref 157)] [] e20 (none, b) := by
        refine ev_rn (n := 2) (i2 := 117) (L2 := [some (.ref 157)]) (st2 := [.int (81 : Int32), .ref 157]) (g2 := e20) cdE_116 rfl ?_
        obtain ⟨q21, hq21, h⟩ := Option.bind_eq_some_iff.mp h
        refine ev_call rfl cdE_104 rfl rfl rfl (e_Mo_clears (81 : Int32)  e20 hq21) ?_
        refine ev_rn (n := 5) (i2 := 123) (L2 := [some (.ref 157)]) (st2 := [.long (1 : Int64), .int (79 : Int32), .int (57 : Int32), .int (81 : Int32), .ref 157]) (g2 := q21) cdE_116 rfl ?_
        obtain ⟨q22, hq22, h⟩ := Option.bind_eq_some_iff.mp h
        refine ev_call rfl cdE_108 rfl rfl rfl (e_Mo_addsProduct (81 : Int32) (57 : Int32) (79 : Int32) (1 : Int64)  q21 hq22) ?_
        refine ev_rn (n := 4) (i2 := 128) (L2 := [some (.ref 157)]) (st2 := [.int (0 : Int32), .int (81 : Int32), .ref 157, .ref 157]) (g2 := q22) cdE_116 rfl ?_
        obtain ⟨q23, hq23, h⟩ := Option.bind_eq_some_iff.mp h
        refine ev_call rfl cdE_110 rfl rfl rfl (e_Mo_part (81 : Int32) (0 : Int32)  q22 hq23) ?_
        refine bd_elim h (fun g24 hg24 h => ?_)
        refine ev_pf (g2 := g24) rfl (rfl : S0[157]? = some _) (by decide) (by rw [hg24] <;> rfl) ?_
        refine ev_rn (n := 4) (i2 := 134) (L2 := [some (.ref 157)]) (st2 := [.int (3 : Int32), .int (81 : Int32), .ref 157, .ref 157]) (g2 := g24) cdE_116 rfl ?_
        obtain ⟨q25, hq25, h⟩ := Option.bind_eq_some_iff.mp h
        refine ev_call rfl cdE_110 rfl rfl rfl (e_Mo_part (81 : Int32) (3 : Int32)  g24 hq25) ?_
        refine ev_rn (n := 1) (i2 := 136) (L2 := [some (.ref 157)]) (st2 := [.long (-q25), .ref 157]) (g2 := g24) cdE_116 rfl ?_
        refine bd_elim h (fun g26 hg26 h => ?_)
        refine ev_pf (g2 := g26) rfl (rfl : S0[157]? = some _) (by decide) (by rw [hg26] <;> rfl) ?_
        refine ev_rn (n := 2) (i2 := 139) (L2 := [some (.ref 157), none, none, none, none, none, some (.int (0 : Int32))]) (st2 := []) (g2 := g26) cdE_116 rfl ?_
        obtain ⟨e38, he38, h⟩ := Option.bind_eq_some_iff.mp h
        have hX53 : Ev Lx 116 cd_116 189 [some (.ref 157)] [] e38 (none, b) := by
          refine ev_rn (n := 2) (i2 := 191) (L2 := [some (.ref 157), none, none, none, none, none, some (.int (0 : Int32))]) (st2 := []) (g2 := e38) cdE_116 rfl ?_
          obtain ⟨e41, he41, h⟩ := Option.bind_eq_some_iff.mp h
          have hX52 : Ev Lx 116 cd_116 202 [some (.ref 157)] [] e41 (none, b) := by
            refine ev_rn (n := 2) (i2 := 204) (L2 := [some (.ref 157)]) (st2 := [.int (1 : Int32), .ref 157]) (g2 := e41) cdE_116 rfl ?_
            refine bd_elim h (fun g42 hg42 h => ?_)
            refine ev_pf (g2 := g42) rfl (rfl : S0[157]? = some _) (by decide) (by rw [hg42] <;> rfl) ?_
            refine ev_rn (n := 2) (i2 := 207) (L2 := [some (.ref 157), none, none, none, none, none, some (.int (0 : Int32))]) (st2 := []) (g2 := g42) cdE_116 rfl ?_
            obtain ⟨e50, he50, h⟩ := Option.bind_eq_some_iff.mp h
            have hX51 : Ev Lx 116 cd_116 230 [] [] e50 (none, b) := by
              cases h
              exact ev_ret rfl rfl
            exact ev_wk (L := [some (.ref 157), none, none, none, none, none, some (.int (0 : Int32))]) (lp_ind (P := (fun (s : (Int32 × M2)) => Ev Lx 116 cd_116 207 [some (.ref 157), none, none, none, none, none, some (.int s.1)] [] s.2 (none, b))) (fun s s2 hs hP => tb_Mo_solves_207   s.1 s.2 (b := .inl s2) hs hP) (fun s hs => tb_Mo_solves_207   s.1 s.2 (b := .inr e50) hs hX51) _ _ he50) ⟨rfl, ⟨rfl, trivial⟩⟩
          exact ev_wk (L := [some (.ref 157), none, none, none, none, none, some (.int (0 : Int32))]) (lp_ind (P := (fun (s : (Int32 × M2)) => Ev Lx 116 cd_116 191 [some (.ref 157), none, none, none, none, none, some (.int s.1)] [] s.2 (none, b))) (fun s s2 hs hP => tb_Mo_solves_191   s.1 s.2 (b := .inl s2) hs hP) (fun s hs => tb_Mo_solves_191   s.1 s.2 (b := .inr e41) hs hX52) _ _ he41) ⟨rfl, ⟨rfl, trivial⟩⟩
        exact ev_wk (L := [some (.ref 157), none, none, none, none, none, some (.int (0 : Int32))]) (lp_ind (P := (fun (s : (Int32 × M2)) => Ev Lx 116 cd_116 139 [some (.ref 157), none, none, none, none, none, some (.int s.1)] [] s.2 (none, b))) (fun s s2 hs hP => tb_Mo_solves_139   s.1 s.2 (b := .inl s2) hs hP) (fun s hs => tb_Mo_solves_139   s.1 s.2 (b := .inr e38) hs hX53) _ _ he38) ⟨rfl, ⟨rfl, trivial⟩⟩
      exact ev_wk (L := [some (.ref 157), some (.int (((1 : Int32) <<< ((q6.1 157 14) &&& 31)) - (1 : Int32))), none, none, none, none, some (.int (0 : Int32))]) (lp_ind (P := (fun (s : (Int32 × M2)) => Ev Lx 116 cd_116 83 [some (.ref 157), some (.int (((1 : Int32) <<< ((q6.1 157 14) &&& 31)) - (1 : Int32))), none, none, none, none, some (.int s.1)] [] s.2 (none, b))) (fun s s2 hs hP => tb_Mo_solves_83 (((1 : Int32) <<< ((q6.1 157 14) &&& 31)) - (1 : Int32))  s.1 s.2 (b := .inl s2) hs hP) (fun s hs => tb_Mo_solves_83 (((1 : Int32) <<< ((q6.1 157 14) &&& 31)) - (1 : Int32))  s.1 s.2 (b := .inr e20) hs hX54) _ _ he20) ⟨rfl, ⟨rfl, ⟨rfl, trivial⟩⟩⟩
    · rw [if_neg hc4] at h
      refine ev_zff rfl (cn_f hc4) ?_
      cases h
      exact ev_ret rfl rfl
def f_Mo_solvesWith (p0 : Int32) (p1 : Int32) (g : M2) : Option (M2) := ((f_Mo_laysElements p0 g).bind fun q1 => ((f_Mo_laysWishes p1 q1).bind fun q2 => ((f_Mo_solves q2).bind fun q3 => some q3)))
theorem e_Mo_solvesWith {Lx : Nat} (p0 : Int32) (p1 : Int32)  (g : M2) {b : M2} (h : f_Mo_solvesWith p0 p1 g = some b) : Ev Lx 117 cd_117 0 [some (.ref 157), some (.int p0), some (.int p1)] [] g (none, b) := by
  unfold f_Mo_solvesWith at h
  refine ev_rn (n := 2) (i2 := 2) (L2 := [some (.ref 157), some (.int p0), some (.int p1)]) (st2 := [.int p0, .ref 157]) (g2 := g) cdE_117 rfl ?_
  obtain ⟨q1, hq1, h⟩ := Option.bind_eq_some_iff.mp h
  refine ev_call rfl cdE_102 rfl rfl rfl (e_Mo_laysElements p0  g hq1) ?_
  refine ev_rn (n := 2) (i2 := 5) (L2 := [some (.ref 157), some (.int p0), some (.int p1)]) (st2 := [.int p1, .ref 157]) (g2 := q1) cdE_117 rfl ?_
  obtain ⟨q2, hq2, h⟩ := Option.bind_eq_some_iff.mp h
  refine ev_call rfl cdE_103 rfl rfl rfl (e_Mo_laysWishes p1  q1 hq2) ?_
  refine ev_rn (n := 1) (i2 := 7) (L2 := [some (.ref 157), some (.int p0), some (.int p1)]) (st2 := [.ref 157]) (g2 := q2) cdE_117 rfl ?_
  obtain ⟨q3, hq3, h⟩ := Option.bind_eq_some_iff.mp h
  refine ev_call rfl cdE_116 rfl rfl rfl (e_Mo_solves   q2 hq3) ?_
  cases h
  exact ev_ret rfl rfl
def f_Mo_canNow  (g : M2) : Option (Int32 × M2) := ((f_Mo_lookNow g).bind fun q1 => ((f_Mo_solvesWith (0 : Int32) q1 g).bind fun q2 => some (((q2.1 157 15) &&& 1), q2)))
theorem e_Mo_canNow {Lx : Nat}   (g : M2) {b : (Int32 × M2)} (h : f_Mo_canNow  g = some b) : Ev Lx 118 cd_118 0 [some (.ref 157)] [] g (some (.int b.1), b.2) := by
  unfold f_Mo_canNow at h
  refine ev_rn (n := 3) (i2 := 3) (L2 := [some (.ref 157)]) (st2 := [.ref 157, .int (0 : Int32), .ref 157]) (g2 := g) cdE_118 rfl ?_
  obtain ⟨q1, hq1, h⟩ := Option.bind_eq_some_iff.mp h
  refine ev_call rfl cdE_63 rfl rfl rfl (e_Mo_lookNow   g hq1) ?_
  obtain ⟨q2, hq2, h⟩ := Option.bind_eq_some_iff.mp h
  refine ev_call rfl cdE_117 rfl rfl rfl (e_Mo_solvesWith (0 : Int32) q1  g hq2) ?_
  refine ev_rn (n := 2) (i2 := 7) (L2 := [some (.ref 157)]) (st2 := [.int (q2.1 157 15)]) (g2 := q2) cdE_118 rfl ?_
  cases h
  exact ev_ret rfl rfl
def f_Mo_wish (p0 : Int32) (p1 : Int32) (g : M2) : Option (Int32 × M2) := ((f_Mo_canNow g).bind fun q1 => (if (f_Mo_in p0.toInt64 (0 : Int64) ((q1.2.1 157 10) - (1 : Int32)).toInt64 q1.2) = 0 then some ((-2 : Int32), q1.2) else (if (f_Mo_in p1.toInt64 (0 : Int64) (1 : Int64) q1.2) = 0 then some ((-2 : Int32), q1.2) else (if p1 = 0 then (if inb p0 5 then some ((q1.2.1 163 p0.toNatClampNeg), q1.2) else none) else (if inb p0 5 then (if (q1.2.1 164 p0.toNatClampNeg) = 0 then some ((0 : Int32), q1.2) else some ((1 : Int32), q1.2)) else none)))))
theorem e_Mo_wish {Lx : Nat} (p0 : Int32) (p1 : Int32)  (g : M2) {b : (Int32 × M2)} (h : f_Mo_wish p0 p1 g = some b) : Ev Lx 119 cd_119 0 [some (.ref 157), some (.int p0), some (.int p1)] [] g (some (.int b.1), b.2) := by
  unfold f_Mo_wish at h
  refine ev_rn (n := 1) (i2 := 1) (L2 := [some (.ref 157), some (.int p0), some (.int p1)]) (st2 := [.ref 157]) (g2 := g) cdE_119 rfl ?_
  obtain ⟨q1, hq1, h⟩ := Option.bind_eq_some_iff.mp h
  refine ev_call rfl cdE_118 rfl rfl rfl (e_Mo_canNow   g hq1) ?_
  refine ev_rn (n := 9) (i2 := 11) (L2 := [some (.ref 157), some (.int p0), some (.int p1)]) (st2 := [.long ((q1.2.1 157 10) - (1 : Int32)).toInt64, .long (0 : Int64), .long p0.toInt64]) (g2 := q1.2) cdE_119 rfl ?_
  refine ev_call rfl cdE_16 rfl rfl rfl (e_Mo_in p0.toInt64 (0 : Int64) ((q1.2.1 157 10) - (1 : Int32)).toInt64  q1.2 rfl) ?_
  by_cases hc2 : (f_Mo_in p0.toInt64 (0 : Int64) ((q1.2.1 157 10) - (1 : Int32)).toInt64 q1.2) = 0
  · rw [if_pos hc2] at h
    refine ev_zft cdE_119 rfl (cn_t hc2) ?_
    refine ev_rn (n := 1) (i2 := 20) (L2 := [some (.ref 157), some (.int p0), some (.int p1)]) (st2 := [.int (-2 : Int32)]) (g2 := q1.2) cdE_119 rfl ?_
    cases h
    exact ev_ret rfl rfl
  · rw [if_neg hc2] at h
    refine ev_zff rfl (cn_f hc2) ?_
    refine ev_rn (n := 4) (i2 := 17) (L2 := [some (.ref 157), some (.int p0), some (.int p1)]) (st2 := [.long (1 : Int64), .long (0 : Int64), .long p1.toInt64]) (g2 := q1.2) cdE_119 rfl ?_
    refine ev_call rfl cdE_16 rfl rfl rfl (e_Mo_in p1.toInt64 (0 : Int64) (1 : Int64)  q1.2 rfl) ?_
    by_cases hc3 : (f_Mo_in p1.toInt64 (0 : Int64) (1 : Int64) q1.2) = 0
    · rw [if_pos hc3] at h
      refine ev_zff rfl (cn_f (fun q => q hc3)) ?_
      refine ev_rn (n := 1) (i2 := 20) (L2 := [some (.ref 157), some (.int p0), some (.int p1)]) (st2 := [.int (-2 : Int32)]) (g2 := q1.2) cdE_119 rfl ?_
      cases h
      exact ev_ret rfl rfl
    · rw [if_neg hc3] at h
      refine ev_zft cdE_119 rfl (cn_t hc3) ?_
      refine ev_rn (n := 1) (i2 := 22) (L2 := [some (.ref 157), some (.int p0), some (.int p1)]) (st2 := [.int p1]) (g2 := q1.2) cdE_119 rfl ?_
      by_cases hc4 : p1 = 0
      · rw [if_pos hc4] at h
        refine ev_zff rfl (cn_f (fun q => q hc4)) ?_
        refine ev_rn (n := 3) (i2 := 26) (L2 := [some (.ref 157), some (.int p0), some (.int p1)]) (st2 := [.int p0, .ref 163]) (g2 := q1.2) cdE_119 rfl ?_
        by_cases hi7 : inb p0 5
        · rw [if_pos hi7] at h
          refine ev_iaload (v := .int (q1.2.1 163 p0.toNatClampNeg)) rfl (kd_of (show S0[163]? = some (100, 5, List.replicate 5 none) from rfl)) (by decide) hi7 rfl ?_
          refine ev_rn (n := 1) (i2 := 36) (L2 := [some (.ref 157), some (.int p0), some (.int p1)]) (st2 := [.int (q1.2.1 163 p0.toNatClampNeg)]) (g2 := q1.2) cdE_119 rfl ?_
          cases h
          exact ev_ret rfl rfl
        · rw [if_neg hi7] at h
          cases h
      · rw [if_neg hc4] at h
        refine ev_zft cdE_119 rfl (cn_t hc4) ?_
        refine ev_rn (n := 3) (i2 := 31) (L2 := [some (.ref 157), some (.int p0), some (.int p1)]) (st2 := [.int p0, .ref 164]) (g2 := q1.2) cdE_119 rfl ?_
        by_cases hi5 : inb p0 5
        · rw [if_pos hi5] at h
          refine ev_baload (v := .int (q1.2.1 164 p0.toNatClampNeg)) rfl (kd_of (show S0[164]? = some (103, 5, List.replicate 5 none) from rfl)) (by decide) hi5 rfl ?_
          by_cases hc6 : (q1.2.1 164 p0.toNatClampNeg) = 0
          · rw [if_pos hc6] at h
            refine ev_zft cdE_119 rfl (cn_t hc6) ?_
            refine ev_rn (n := 1) (i2 := 36) (L2 := [some (.ref 157), some (.int p0), some (.int p1)]) (st2 := [.int (0 : Int32)]) (g2 := q1.2) cdE_119 rfl ?_
            cases h
            exact ev_ret rfl rfl
          · rw [if_neg hc6] at h
            refine ev_zff rfl (cn_f hc6) ?_
            refine ev_rn (n := 2) (i2 := 36) (L2 := [some (.ref 157), some (.int p0), some (.int p1)]) (st2 := [.int (1 : Int32)]) (g2 := q1.2) cdE_119 rfl ?_
            cases h
            exact ev_ret rfl rfl
        · rw [if_neg hi5] at h
          cases h
def f_Da_rank  (g : M2) : Option (Int32 × M2) := ((f_Da_refresh g).bind fun q1 => some ((q1.1 6 12), q1))
theorem e_Da_rank {Lx : Nat}   (g : M2) {b : (Int32 × M2)} (h : f_Da_rank  g = some b) : Ev Lx 120 cd_120 0 [some (.ref 0)] [] g (some (.int b.1), b.2) := by
  unfold f_Da_rank at h
  refine ev_rn (n := 1) (i2 := 1) (L2 := [some (.ref 0)]) (st2 := [.ref 0]) (g2 := g) cdE_120 rfl ?_
  obtain ⟨q1, hq1, h⟩ := Option.bind_eq_some_iff.mp h
  refine ev_call rfl cdE_100 rfl rfl rfl (e_Da_refresh   g hq1) ?_
  refine ev_rn (n := 3) (i2 := 5) (L2 := [some (.ref 0)]) (st2 := [.int (q1.1 6 12)]) (g2 := q1) cdE_120 rfl ?_
  cases h
  exact ev_ret rfl rfl
def f_Mo_rank  (g : M2) : Option (Int32 × M2) := ((f_Mo_canNow g).bind fun q1 => some ((q1.2.1 157 14), q1.2))
theorem e_Mo_rank {Lx : Nat}   (g : M2) {b : (Int32 × M2)} (h : f_Mo_rank  g = some b) : Ev Lx 121 cd_121 0 [some (.ref 157)] [] g (some (.int b.1), b.2) := by
  unfold f_Mo_rank at h
  refine ev_rn (n := 1) (i2 := 1) (L2 := [some (.ref 157)]) (st2 := [.ref 157]) (g2 := g) cdE_121 rfl ?_
  obtain ⟨q1, hq1, h⟩ := Option.bind_eq_some_iff.mp h
  refine ev_call rfl cdE_118 rfl rfl rfl (e_Mo_canNow   g hq1) ?_
  refine ev_rn (n := 3) (i2 := 5) (L2 := [some (.ref 157)]) (st2 := [.int (q1.2.1 157 14)]) (g2 := q1.2) cdE_121 rfl ?_
  cases h
  exact ev_ret rfl rfl
def f_Da_solved  (g : M2) : Option (Int32 × M2) := ((f_Da_refresh g).bind fun q1 => (if (q1.1 6 13) = 0 then some ((0 : Int32), q1) else some ((1 : Int32), q1)))
theorem e_Da_solved {Lx : Nat}   (g : M2) {b : (Int32 × M2)} (h : f_Da_solved  g = some b) : Ev Lx 122 cd_122 0 [some (.ref 0)] [] g (some (.int b.1), b.2) := by
  unfold f_Da_solved at h
  refine ev_rn (n := 1) (i2 := 1) (L2 := [some (.ref 0)]) (st2 := [.ref 0]) (g2 := g) cdE_122 rfl ?_
  obtain ⟨q1, hq1, h⟩ := Option.bind_eq_some_iff.mp h
  refine ev_call rfl cdE_100 rfl rfl rfl (e_Da_refresh   g hq1) ?_
  refine ev_rn (n := 3) (i2 := 5) (L2 := [some (.ref 0)]) (st2 := [.int (q1.1 6 13)]) (g2 := q1) cdE_122 rfl ?_
  by_cases hc2 : (q1.1 6 13) = 0
  · rw [if_pos hc2] at h
    refine ev_zft cdE_122 rfl (cn_t hc2) ?_
    refine ev_rn (n := 1) (i2 := 9) (L2 := [some (.ref 0)]) (st2 := [.int (0 : Int32)]) (g2 := q1) cdE_122 rfl ?_
    cases h
    exact ev_ret rfl rfl
  · rw [if_neg hc2] at h
    refine ev_zff rfl (cn_f hc2) ?_
    refine ev_rn (n := 2) (i2 := 9) (L2 := [some (.ref 0)]) (st2 := [.int (1 : Int32)]) (g2 := q1) cdE_122 rfl ?_
    cases h
    exact ev_ret rfl rfl
def f_Mo_solved  (g : M2) : Option (Int32 × M2) := ((f_Mo_canNow g).bind fun q1 => (if q1.1 = 0 then some ((0 : Int32), q1.2) else some ((1 : Int32), q1.2)))
theorem e_Mo_solved {Lx : Nat}   (g : M2) {b : (Int32 × M2)} (h : f_Mo_solved  g = some b) : Ev Lx 123 cd_123 0 [some (.ref 157)] [] g (some (.int b.1), b.2) := by
  unfold f_Mo_solved at h
  refine ev_rn (n := 1) (i2 := 1) (L2 := [some (.ref 157)]) (st2 := [.ref 157]) (g2 := g) cdE_123 rfl ?_
  obtain ⟨q1, hq1, h⟩ := Option.bind_eq_some_iff.mp h
  refine ev_call rfl cdE_118 rfl rfl rfl (e_Mo_canNow   g hq1) ?_
  by_cases hc2 : q1.1 = 0
  · rw [if_pos hc2] at h
    refine ev_zft cdE_123 rfl (cn_t hc2) ?_
    refine ev_rn (n := 1) (i2 := 6) (L2 := [some (.ref 157)]) (st2 := [.int (0 : Int32)]) (g2 := q1.2) cdE_123 rfl ?_
    cases h
    exact ev_ret rfl rfl
  · rw [if_neg hc2] at h
    refine ev_zff rfl (cn_f hc2) ?_
    refine ev_rn (n := 2) (i2 := 6) (L2 := [some (.ref 157)]) (st2 := [.int (1 : Int32)]) (g2 := q1.2) cdE_123 rfl ?_
    cases h
    exact ev_ret rfl rfl
def f_Nu_part (a0 : Nat) (p0 : Int32) (g : M2) : Int64 := (if p0 = 0 then (g.2 a0 0) else (if p0 = 1 then (g.2 a0 1) else (if p0 = 2 then (g.2 a0 2) else (g.2 a0 3))))
theorem e_Nu_part {Lx : Nat} (a0 : Nat) (p0 : Int32) (ha0 : IsNum a0) (g : M2) {b : Int64} (h : f_Nu_part a0 p0 g = b) : Ev Lx 124 cd_124 0 [some (.ref a0), some (.int p0)] [] g (some (.long b), g) := by
  unfold f_Nu_part at h
  refine ev_rn (n := 1) (i2 := 1) (L2 := [some (.ref a0), some (.int p0)]) (st2 := [.int p0]) (g2 := g) cdE_124 rfl ?_
  by_cases hw1 : p0 = 0
  · rw [if_pos hw1] at h
    refine ev_swi (v := 0) (q := 2) cdE_124 rfl hw1 rfl rfl ?_
    refine ev_rn (n := 1) (i2 := 3) (L2 := [some (.ref a0), some (.int p0)]) (st2 := [.ref a0]) (g2 := g) cdE_124 rfl ?_
    refine ev_gf (v := .long (g.2 a0 0)) rfl ha0 (by decide) rfl ?_
    subst h
    exact ev_ret rfl rfl
  · rw [if_neg hw1] at h
    by_cases hw2 : p0 = 1
    · rw [if_pos hw2] at h
      refine ev_swi (v := 1) (q := 4) cdE_124 rfl hw2 rfl rfl ?_
      refine ev_rn (n := 1) (i2 := 6) (L2 := [some (.ref a0), some (.int p0)]) (st2 := [.ref a0]) (g2 := g) cdE_124 rfl ?_
      refine ev_gf (v := .long (g.2 a0 1)) rfl ha0 (by decide) rfl ?_
      subst h
      exact ev_ret rfl rfl
    · rw [if_neg hw2] at h
      by_cases hw3 : p0 = 2
      · rw [if_pos hw3] at h
        refine ev_swi (v := 2) (q := 6) cdE_124 rfl hw3 rfl rfl ?_
        refine ev_rn (n := 1) (i2 := 9) (L2 := [some (.ref a0), some (.int p0)]) (st2 := [.ref a0]) (g2 := g) cdE_124 rfl ?_
        refine ev_gf (v := .long (g.2 a0 2)) rfl ha0 (by decide) rfl ?_
        subst h
        exact ev_ret rfl rfl
      · rw [if_neg hw3] at h
        have nhw1 : p0.toInt ≠ 0 := fun z => hw1 (Int32.toInt_inj.mp (z.trans (by decide)))
        have nhw2 : p0.toInt ≠ 1 := fun z => hw2 (Int32.toInt_inj.mp (z.trans (by decide)))
        have nhw3 : p0.toInt ≠ 2 := fun z => hw3 (Int32.toInt_inj.mp (z.trans (by decide)))
        refine ev_swo cdE_124 rfl (by omega) ?_
        refine ev_rn (n := 1) (i2 := 12) (L2 := [some (.ref a0), some (.int p0)]) (st2 := [.ref a0]) (g2 := g) cdE_124 rfl ?_
        refine ev_gf (v := .long (g.2 a0 3)) rfl ha0 (by decide) rfl ?_
        subst h
        exact ev_ret rfl rfl
def f_Ma_abs (p0 : Int64) (g : M2) : Int64 := (if (0 : Int64) ≤ p0 then p0 else (-p0))
theorem e_Ma_abs {Lx : Nat} (p0 : Int64)  (g : M2) {b : Int64} (h : f_Ma_abs p0 g = b) : Ev Lx 125 cd_125 0 [some (.long p0), none] [] g (some (.long b), g) := by
  unfold f_Ma_abs at h
  refine ev_rn (n := 3) (i2 := 3) (L2 := [some (.long p0), none]) (st2 := [.int (lg_cmp p0 (0 : Int64))]) (g2 := g) cdE_125 rfl ?_
  by_cases hc1 : (0 : Int64) ≤ p0
  · rw [if_pos hc1] at h
    refine ev_zft cdE_125 rfl (lc_ge_t hc1) ?_
    refine ev_rn (n := 1) (i2 := 8) (L2 := [some (.long p0), none]) (st2 := [.long p0]) (g2 := g) cdE_125 rfl ?_
    subst h
    exact ev_ret rfl rfl
  · rw [if_neg hc1] at h
    refine ev_zff rfl (lc_ge_f hc1) ?_
    refine ev_rn (n := 3) (i2 := 8) (L2 := [some (.long p0), none]) (st2 := [.long (-p0)]) (g2 := g) cdE_125 rfl ?_
    subst h
    exact ev_ret rfl rfl
def b_Da_commonDivisor_8  (v4 : Int64) (v6 : Int64) (v8 : Int32) (g : M2) : Option ((Int64 × Int64 × Int32) ⊕ Int64) := (if (130 : Int32) ≤ v8 then some (.inr v4) else (if v6 = (0 : Int64) then some (.inr v4) else (if v6 = 0 then none else some (.inl (v6, (v4 - v4 / v6 * v6), (v8 + (1 : Int32)))))))
theorem tb_Da_commonDivisor_8 {Lx : Nat}   (v4 : Int64) (v6 : Int64) (v8 : Int32) (g : M2) {b : (Int64 × Int64 × Int32) ⊕ Int64} {o : Option Value × M2} (h : b_Da_commonDivisor_8 v4 v6 v8 g = some b) (hb : Sum.elim (fun s => Ev Lx 126 cd_126 8 [none, none, none, none, some (.long s.1), none, some (.long s.2.1), none, some (.int s.2.2)] [] g o) (fun e => Ev Lx 126 cd_126 25 [none, none, none, none, some (.long e)] [] g o) b) : Ev Lx 126 cd_126 8 [none, none, none, none, some (.long v4), none, some (.long v6), none, some (.int v8)] [] g o := by
  unfold b_Da_commonDivisor_8 at h
  refine ev_rn (n := 2) (i2 := 10) (L2 := [none, none, none, none, some (.long v4), none, some (.long v6), none, some (.int v8)]) (st2 := [.int (130 : Int32), .int v8]) (g2 := g) cdE_126 rfl ?_
  by_cases hc1 : (130 : Int32) ≤ v8
  · rw [if_pos hc1] at h
    refine ev_ift cdE_126 rfl (cn_t hc1) ?_
    cases h
    exact ev_wk (L := [none, none, none, none, some (.long v4)]) hb ⟨rfl, trivial⟩
  · rw [if_neg hc1] at h
    refine ev_iff rfl (cn_f hc1) ?_
    refine ev_rn (n := 3) (i2 := 14) (L2 := [none, none, none, none, some (.long v4), none, some (.long v6), none, some (.int v8)]) (st2 := [.int (lg_cmp v6 (0 : Int64))]) (g2 := g) cdE_126 rfl ?_
    by_cases hc2 : v6 = (0 : Int64)
    · rw [if_pos hc2] at h
      refine ev_zft cdE_126 rfl (lc_eq_t hc2) ?_
      cases h
      exact ev_wk (L := [none, none, none, none, some (.long v4)]) hb ⟨rfl, trivial⟩
    · rw [if_neg hc2] at h
      refine ev_zff rfl (lc_eq_f hc2) ?_
      refine ev_rn (n := 2) (i2 := 17) (L2 := [none, none, none, none, some (.long v4), none, some (.long v6), none, some (.int v8)]) (st2 := [.long v6, .long v4]) (g2 := g) cdE_126 rfl ?_
      by_cases hd3 : v6 = 0
      · rw [if_pos hd3] at h
        cases h
      · rw [if_neg hd3] at h
        refine ev_lrem rfl hd3 ?_
        refine ev_rn (n := 1) (i2 := 19) (L2 := [none, none, none, none, some (.long v4), none, some (.long v6), none, some (.int v8), some (.long (v4 - v4 / v6 * v6)), none]) (st2 := []) (g2 := g) cdE_126 rfl ?_
        refine ev_rn (n := 2) (i2 := 21) (L2 := [none, none, none, none, some (.long v6), none, some (.long v6), none, some (.int v8), some (.long (v4 - v4 / v6 * v6)), none]) (st2 := []) (g2 := g) cdE_126 rfl ?_
        refine ev_rn (n := 2) (i2 := 23) (L2 := [none, none, none, none, some (.long v6), none, some (.long (v4 - v4 / v6 * v6)), none, some (.int v8), some (.long (v4 - v4 / v6 * v6)), none]) (st2 := []) (g2 := g) cdE_126 rfl ?_
        refine ev_rn (n := 2) (i2 := 8) (L2 := [none, none, none, none, some (.long v6), none, some (.long (v4 - v4 / v6 * v6)), none, some (.int (v8 + (1 : Int32))), some (.long (v4 - v4 / v6 * v6)), none]) (st2 := []) (g2 := g) cdE_126 rfl ?_
        cases h
        exact ev_wk (L := [none, none, none, none, some (.long v6), none, some (.long (v4 - v4 / v6 * v6)), none, some (.int (v8 + (1 : Int32)))]) hb ⟨rfl, ⟨rfl, ⟨rfl, trivial⟩⟩⟩
def f_Da_commonDivisor (p0 : Int64) (p1 : Int64) (g : M2) : Option (Int64) := ((lp (fun s => b_Da_commonDivisor_8  s.1 s.2.1 s.2.2 g) 5000 ((f_Ma_abs p0 g), (f_Ma_abs p1 g), (0 : Int32))).bind fun e4 => some e4)
theorem e_Da_commonDivisor {Lx : Nat} (p0 : Int64) (p1 : Int64)  (g : M2) {b : Int64} (h : f_Da_commonDivisor p0 p1 g = some b) : Ev Lx 126 cd_126 0 [some (.long p0), none, some (.long p1), none] [] g (some (.long b), g) := by
  unfold f_Da_commonDivisor at h
  refine ev_rn (n := 1) (i2 := 1) (L2 := [some (.long p0), none, some (.long p1), none]) (st2 := [.long p0]) (g2 := g) cdE_126 rfl ?_
  refine ev_call rfl cdE_125 rfl rfl rfl (e_Ma_abs p0  g rfl) ?_
  refine ev_rn (n := 1) (i2 := 3) (L2 := [some (.long p0), none, some (.long p1), none, some (.long (f_Ma_abs p0 g)), none]) (st2 := []) (g2 := g) cdE_126 rfl ?_
  refine ev_rn (n := 1) (i2 := 4) (L2 := [some (.long p0), none, some (.long p1), none, some (.long (f_Ma_abs p0 g)), none]) (st2 := [.long p1]) (g2 := g) cdE_126 rfl ?_
  refine ev_call rfl cdE_125 rfl rfl rfl (e_Ma_abs p1  g rfl) ?_
  refine ev_rn (n := 1) (i2 := 6) (L2 := [some (.long p0), none, some (.long p1), none, some (.long (f_Ma_abs p0 g)), none, some (.long (f_Ma_abs p1 g)), none]) (st2 := []) (g2 := g) cdE_126 rfl ?_
  refine ev_rn (n := 2) (i2 := 8) (L2 := [some (.long p0), none, some (.long p1), none, some (.long (f_Ma_abs p0 g)), none, some (.long (f_Ma_abs p1 g)), none, some (.int (0 : Int32))]) (st2 := []) (g2 := g) cdE_126 rfl ?_
  obtain ⟨e4, he4, h⟩ := Option.bind_eq_some_iff.mp h
  have hX5 : Ev Lx 126 cd_126 25 [none, none, none, none, some (.long e4)] [] g (some (.long b), g) := by
    refine ev_rn (n := 1) (i2 := 26) (L2 := [none, none, none, none, some (.long e4)]) (st2 := [.long e4]) (g2 := g) cdE_126 rfl ?_
    cases h
    exact ev_ret rfl rfl
  exact ev_wk (L := [none, none, none, none, some (.long (f_Ma_abs p0 g)), none, some (.long (f_Ma_abs p1 g)), none, some (.int (0 : Int32))]) (lp_ind (P := (fun (s : (Int64 × Int64 × Int32)) => Ev Lx 126 cd_126 8 [none, none, none, none, some (.long s.1), none, some (.long s.2.1), none, some (.int s.2.2)] [] g (some (.long b), g))) (fun s s2 hs hP => tb_Da_commonDivisor_8   s.1 s.2.1 s.2.2 g (b := .inl s2) hs hP) (fun s hs => tb_Da_commonDivisor_8   s.1 s.2.1 s.2.2 g (b := .inr e4) hs hX5) _ _ he4) ⟨rfl, ⟨rfl, ⟨rfl, trivial⟩⟩⟩
def b_Da_bringToLowest_4 (v1 : Nat) (v2 : Int64) (v4 : Int64) (v6 : Int32) (g : M2) : Option ((Int64 × Int32 × M2) ⊕ (Int64 × M2)) := (if (4 : Int32) ≤ v6 then some (.inr (v4, g)) else (if inb v6 5 then (bd (uJ g 156 v6.toNatClampNeg (f_Nu_part v1 v6 g)) fun g2 => (if inb v6 5 then ((f_Da_commonDivisor v4 (g2.2 156 v6.toNatClampNeg) g2).bind fun q4 => some (.inl (q4, (v6 + (1 : Int32)), g2))) else none)) else none))
theorem tb_Da_bringToLowest_4 {Lx : Nat} (v1 : Nat) (v2 : Int64) (hv1 : IsNum v1) (v4 : Int64) (v6 : Int32) (g : M2) {b : (Int64 × Int32 × M2) ⊕ (Int64 × M2)} {o : Option Value × M2} (h : b_Da_bringToLowest_4 v1 v2 v4 v6 g = some b) (hb : Sum.elim (fun s => Ev Lx 127 cd_127 4 [some (.ref 0), some (.ref v1), some (.long v2), none, some (.long s.1), none, some (.int s.2.1)] [] s.2.2 o) (fun e => Ev Lx 127 cd_127 23 [some (.ref 0), none, some (.long v2), none, some (.long e.1)] [] e.2 o) b) : Ev Lx 127 cd_127 4 [some (.ref 0), some (.ref v1), some (.long v2), none, some (.long v4), none, some (.int v6)] [] g o := by
  unfold b_Da_bringToLowest_4 at h
  refine ev_rn (n := 2) (i2 := 6) (L2 := [some (.ref 0), some (.ref v1), some (.long v2), none, some (.long v4), none, some (.int v6)]) (st2 := [.int (4 : Int32), .int v6]) (g2 := g) cdE_127 rfl ?_
  by_cases hc1 : (4 : Int32) ≤ v6
  · rw [if_pos hc1] at h
    refine ev_ift cdE_127 rfl (cn_t hc1) ?_
    cases h
    exact ev_wk (L := [some (.ref 0), none, some (.long v2), none, some (.long v4)]) hb ⟨rfl, ⟨rfl, ⟨rfl, trivial⟩⟩⟩
  · rw [if_neg hc1] at h
    refine ev_iff rfl (cn_f hc1) ?_
    refine ev_rn (n := 5) (i2 := 12) (L2 := [some (.ref 0), some (.ref v1), some (.long v2), none, some (.long v4), none, some (.int v6)]) (st2 := [.int v6, .ref v1, .int v6, .ref 156]) (g2 := g) cdE_127 rfl ?_
    refine ev_call rfl cdE_124 (cokV rfl rfl hv1 rfl) rfl rfl (e_Nu_part v1 v6 hv1 g rfl) ?_
    by_cases hi5 : inb v6 5
    · rw [if_pos hi5] at h
      refine bd_elim h (fun g2 hg2 h => ?_)
      refine ev_lastore (g2 := g2) rfl (show S0[156]? = some (101, 5, List.replicate 5 none) from rfl) (by decide) hi5 (by rw [hg2] <;> rfl) ?_
      refine ev_rn (n := 4) (i2 := 18) (L2 := [some (.ref 0), some (.ref v1), some (.long v2), none, some (.long v4), none, some (.int v6)]) (st2 := [.int v6, .ref 156, .long v4]) (g2 := g2) cdE_127 rfl ?_
      by_cases hi3 : inb v6 5
      · rw [if_pos hi3] at h
        refine ev_laload (v := .long (g2.2 156 v6.toNatClampNeg)) rfl (kd_of (show S0[156]? = some (101, 5, List.replicate 5 none) from rfl)) (by decide) hi3 rfl ?_
        obtain ⟨q4, hq4, h⟩ := Option.bind_eq_some_iff.mp h
        refine ev_call rfl cdE_126 rfl rfl rfl (e_Da_commonDivisor v4 (g2.2 156 v6.toNatClampNeg)  g2 hq4) ?_
        refine ev_rn (n := 1) (i2 := 21) (L2 := [some (.ref 0), some (.ref v1), some (.long v2), none, some (.long q4), none, some (.int v6)]) (st2 := []) (g2 := g2) cdE_127 rfl ?_
        refine ev_rn (n := 2) (i2 := 4) (L2 := [some (.ref 0), some (.ref v1), some (.long v2), none, some (.long q4), none, some (.int (v6 + (1 : Int32)))]) (st2 := []) (g2 := g2) cdE_127 rfl ?_
        cases h
        exact ev_wk (L := [some (.ref 0), some (.ref v1), some (.long v2), none, some (.long q4), none, some (.int (v6 + (1 : Int32)))]) hb ⟨rfl, ⟨rfl, ⟨rfl, ⟨rfl, ⟨rfl, trivial⟩⟩⟩⟩⟩
      · rw [if_neg hi3] at h
        cases h
    · rw [if_neg hi5] at h
      cases h
def b_Da_bringToLowest_30 (v4 : Int64) (v6 : Int32) (g : M2) : Option ((Int32 × M2) ⊕ M2) := (if (4 : Int32) < v6 then some (.inr g) else (if v4 = (0 : Int64) then some (.inr g) else (if inb v6 5 then (if v4 = 0 then none else (if inb v6 5 then (bd (uJ g 156 v6.toNatClampNeg ((g.2 156 v6.toNatClampNeg) / v4)) fun g11 => some (.inl ((v6 + (1 : Int32)), g11))) else none)) else none)))
theorem tb_Da_bringToLowest_30 {Lx : Nat} (v4 : Int64)  (v6 : Int32) (g : M2) {b : (Int32 × M2) ⊕ M2} {o : Option Value × M2} (h : b_Da_bringToLowest_30 v4 v6 g = some b) (hb : Sum.elim (fun s => Ev Lx 127 cd_127 30 [some (.ref 0), none, none, none, some (.long v4), none, some (.int s.1)] [] s.2 o) (fun e => Ev Lx 127 cd_127 47 [] [] e o) b) : Ev Lx 127 cd_127 30 [some (.ref 0), none, none, none, some (.long v4), none, some (.int v6)] [] g o := by
  unfold b_Da_bringToLowest_30 at h
  refine ev_rn (n := 2) (i2 := 32) (L2 := [some (.ref 0), none, none, none, some (.long v4), none, some (.int v6)]) (st2 := [.int (4 : Int32), .int v6]) (g2 := g) cdE_127 rfl ?_
  by_cases hc8 : (4 : Int32) < v6
  · rw [if_pos hc8] at h
    refine ev_ift cdE_127 rfl (cn_t hc8) ?_
    cases h
    exact ev_wk (L := []) hb trivial
  · rw [if_neg hc8] at h
    refine ev_iff rfl (cn_f hc8) ?_
    refine ev_rn (n := 3) (i2 := 36) (L2 := [some (.ref 0), none, none, none, some (.long v4), none, some (.int v6)]) (st2 := [.int (lg_cmp v4 (0 : Int64))]) (g2 := g) cdE_127 rfl ?_
    by_cases hc9 : v4 = (0 : Int64)
    · rw [if_pos hc9] at h
      refine ev_zft cdE_127 rfl (lc_eq_t hc9) ?_
      cases h
      exact ev_wk (L := []) hb trivial
    · rw [if_neg hc9] at h
      refine ev_zff rfl (lc_eq_f hc9) ?_
      refine ev_rn (n := 4) (i2 := 41) (L2 := [some (.ref 0), none, none, none, some (.long v4), none, some (.int v6)]) (st2 := [.int v6, .ref 156, .int v6, .ref 156]) (g2 := g) cdE_127 rfl ?_
      by_cases hi10 : inb v6 5
      · rw [if_pos hi10] at h
        refine ev_laload (v := .long (g.2 156 v6.toNatClampNeg)) rfl (kd_of (show S0[156]? = some (101, 5, List.replicate 5 none) from rfl)) (by decide) hi10 rfl ?_
        refine ev_rn (n := 1) (i2 := 43) (L2 := [some (.ref 0), none, none, none, some (.long v4), none, some (.int v6)]) (st2 := [.long v4, .long (g.2 156 v6.toNatClampNeg), .int v6, .ref 156]) (g2 := g) cdE_127 rfl ?_
        by_cases hd13 : v4 = 0
        · rw [if_pos hd13] at h
          cases h
        · rw [if_neg hd13] at h
          refine ev_ldiv rfl hd13 ?_
          by_cases hi12 : inb v6 5
          · rw [if_pos hi12] at h
            refine bd_elim h (fun g11 hg11 h => ?_)
            refine ev_lastore (g2 := g11) rfl (show S0[156]? = some (101, 5, List.replicate 5 none) from rfl) (by decide) hi12 (by rw [hg11] <;> rfl) ?_
            refine ev_rn (n := 2) (i2 := 30) (L2 := [some (.ref 0), none, none, none, some (.long v4), none, some (.int (v6 + (1 : Int32)))]) (st2 := []) (g2 := g11) cdE_127 rfl ?_
            cases h
            exact ev_wk (L := [some (.ref 0), none, none, none, some (.long v4), none, some (.int (v6 + (1 : Int32)))]) hb ⟨rfl, ⟨rfl, ⟨rfl, trivial⟩⟩⟩
          · rw [if_neg hi12] at h
            cases h
      · rw [if_neg hi10] at h
        cases h
def f_Da_bringToLowest (p0 : Nat) (p1 : Int64) (g : M2) : Option (M2) := ((lp (fun s => b_Da_bringToLowest_4 p0 p1 s.1 s.2.1 s.2.2) 5000 (p1, (0 : Int32), g)).bind fun e6 => (bd (uJ e6.2 156 4 p1) fun g7 => ((lp (fun s => b_Da_bringToLowest_30 e6.1 s.1 s.2) 5000 ((0 : Int32), g7)).bind fun e14 => some e14)))
theorem e_Da_bringToLowest {Lx : Nat} (p0 : Nat) (p1 : Int64) (hp0 : IsNum p0) (g : M2) {b : M2} (h : f_Da_bringToLowest p0 p1 g = some b) : Ev Lx 127 cd_127 0 [some (.ref 0), some (.ref p0), some (.long p1), none] [] g (none, b) := by
  unfold f_Da_bringToLowest at h
  refine ev_rn (n := 2) (i2 := 2) (L2 := [some (.ref 0), some (.ref p0), some (.long p1), none, some (.long p1), none]) (st2 := []) (g2 := g) cdE_127 rfl ?_
  refine ev_rn (n := 2) (i2 := 4) (L2 := [some (.ref 0), some (.ref p0), some (.long p1), none, some (.long p1), none, some (.int (0 : Int32))]) (st2 := []) (g2 := g) cdE_127 rfl ?_
  obtain ⟨e6, he6, h⟩ := Option.bind_eq_some_iff.mp h
  have hX16 : Ev Lx 127 cd_127 23 [some (.ref 0), none, some (.long p1), none, some (.long e6.1)] [] e6.2 (none, b) := by
    refine ev_rn (n := 4) (i2 := 27) (L2 := [some (.ref 0), none, some (.long p1), none, some (.long e6.1)]) (st2 := [.long p1, .int (4 : Int32), .ref 156]) (g2 := e6.2) cdE_127 rfl ?_
    refine bd_elim h (fun g7 hg7 h => ?_)
    refine ev_lastore (g2 := g7) rfl (show S0[156]? = some (101, 5, List.replicate 5 none) from rfl) (by decide) ⟨by decide, by decide⟩ (by rw [hg7] <;> rfl) ?_
    refine ev_rn (n := 2) (i2 := 30) (L2 := [some (.ref 0), none, some (.long p1), none, some (.long e6.1), none, some (.int (0 : Int32))]) (st2 := []) (g2 := g7) cdE_127 rfl ?_
    obtain ⟨e14, he14, h⟩ := Option.bind_eq_some_iff.mp h
    have hX15 : Ev Lx 127 cd_127 47 [] [] e14 (none, b) := by
      cases h
      exact ev_ret rfl rfl
    exact ev_wk (L := [some (.ref 0), none, none, none, some (.long e6.1), none, some (.int (0 : Int32))]) (lp_ind (P := (fun (s : (Int32 × M2)) => Ev Lx 127 cd_127 30 [some (.ref 0), none, none, none, some (.long e6.1), none, some (.int s.1)] [] s.2 (none, b))) (fun s s2 hs hP => tb_Da_bringToLowest_30 e6.1  s.1 s.2 (b := .inl s2) hs hP) (fun s hs => tb_Da_bringToLowest_30 e6.1  s.1 s.2 (b := .inr e14) hs hX15) _ _ he14) ⟨rfl, ⟨rfl, ⟨rfl, trivial⟩⟩⟩
  exact ev_wk (L := [some (.ref 0), some (.ref p0), some (.long p1), none, some (.long p1), none, some (.int (0 : Int32))]) (lp_ind (P := (fun (s : (Int64 × Int32 × M2)) => Ev Lx 127 cd_127 4 [some (.ref 0), some (.ref p0), some (.long p1), none, some (.long s.1), none, some (.int s.2.1)] [] s.2.2 (none, b))) (fun s s2 hs hP => tb_Da_bringToLowest_4 p0 p1 hp0 s.1 s.2.1 s.2.2 (b := .inl s2) hs hP) (fun s hs => tb_Da_bringToLowest_4 p0 p1 hp0 s.1 s.2.1 s.2.2 (b := .inr e6) hs hX16) _ _ he6) ⟨rfl, ⟨rfl, ⟨rfl, ⟨rfl, ⟨rfl, trivial⟩⟩⟩⟩⟩
def f_Da_partOf (p0 : Nat) (p1 : Int64) (p2 : Int32) (g : M2) : Option (Int64 × M2) := (if (f_Da_isAmong p2 (5 : Int32) g) = 0 then some ((-9223372036854775808 : Int64), g) else ((f_Da_bringToLowest p0 p1 g).bind fun q2 => (if inb p2 5 then some ((q2.2 156 p2.toNatClampNeg), q2) else none)))
theorem e_Da_partOf {Lx : Nat} (p0 : Nat) (p1 : Int64) (p2 : Int32) (hp0 : IsNum p0) (g : M2) {b : (Int64 × M2)} (h : f_Da_partOf p0 p1 p2 g = some b) : Ev Lx 128 cd_128 0 [some (.ref 0), some (.ref p0), some (.long p1), none, some (.int p2)] [] g (some (.long b.1), b.2) := by
  unfold f_Da_partOf at h
  refine ev_rn (n := 2) (i2 := 2) (L2 := [some (.ref 0), some (.ref p0), some (.long p1), none, some (.int p2)]) (st2 := [.int (5 : Int32), .int p2]) (g2 := g) cdE_128 rfl ?_
  refine ev_call rfl cdE_65 rfl rfl rfl (e_Da_isAmong p2 (5 : Int32)  g rfl) ?_
  by_cases hc1 : (f_Da_isAmong p2 (5 : Int32) g) = 0
  · rw [if_pos hc1] at h
    refine ev_zff rfl (cn_f (fun q => q hc1)) ?_
    refine ev_rn (n := 1) (i2 := 5) (L2 := [some (.ref 0), some (.ref p0), some (.long p1), none, some (.int p2)]) (st2 := [.long (-9223372036854775808 : Int64)]) (g2 := g) cdE_128 rfl ?_
    cases h
    exact ev_ret rfl rfl
  · rw [if_neg hc1] at h
    refine ev_zft cdE_128 rfl (cn_t hc1) ?_
    refine ev_rn (n := 3) (i2 := 9) (L2 := [some (.ref 0), some (.ref p0), some (.long p1), none, some (.int p2)]) (st2 := [.long p1, .ref p0, .ref 0]) (g2 := g) cdE_128 rfl ?_
    obtain ⟨q2, hq2, h⟩ := Option.bind_eq_some_iff.mp h
    refine ev_call rfl cdE_127 rfl rfl rfl (e_Da_bringToLowest p0 p1 hp0 g hq2) ?_
    refine ev_rn (n := 3) (i2 := 13) (L2 := [some (.ref 0), some (.ref p0), some (.long p1), none, some (.int p2)]) (st2 := [.int p2, .ref 156]) (g2 := q2) cdE_128 rfl ?_
    by_cases hi3 : inb p2 5
    · rw [if_pos hi3] at h
      refine ev_laload (v := .long (q2.2 156 p2.toNatClampNeg)) rfl (kd_of (show S0[156]? = some (101, 5, List.replicate 5 none) from rfl)) (by decide) hi3 rfl ?_
      cases h
      exact ev_ret rfl rfl
    · rw [if_neg hi3] at h
      cases h
def f_Da_weight (p0 : Int32) (p1 : Int32) (g : M2) : Option (Int64 × M2) := ((f_Da_refresh g).bind fun q1 => (if (q1.1 6 13) = 0 then some ((-9223372036854775808 : Int64), q1) else (if (f_Pl_has 7 p0 q1) = 0 then some ((-9223372036854775808 : Int64), q1) else (if inb p0 5 then ((f_Da_partOf (49 + 1 + p0.toNatClampNeg) (q1.2 6 16) p1 q1).bind fun q5 => some (q5.1, q5.2)) else none))))
theorem e_Da_weight {Lx : Nat} (p0 : Int32) (p1 : Int32)  (g : M2) {b : (Int64 × M2)} (h : f_Da_weight p0 p1 g = some b) : Ev Lx 129 cd_129 0 [some (.ref 0), some (.int p0), some (.int p1)] [] g (some (.long b.1), b.2) := by
  unfold f_Da_weight at h
  refine ev_rn (n := 1) (i2 := 1) (L2 := [some (.ref 0), some (.int p0), some (.int p1)]) (st2 := [.ref 0]) (g2 := g) cdE_129 rfl ?_
  obtain ⟨q1, hq1, h⟩ := Option.bind_eq_some_iff.mp h
  refine ev_call rfl cdE_100 rfl rfl rfl (e_Da_refresh   g hq1) ?_
  refine ev_rn (n := 3) (i2 := 5) (L2 := [some (.ref 0), some (.int p0), some (.int p1)]) (st2 := [.int (q1.1 6 13)]) (g2 := q1) cdE_129 rfl ?_
  by_cases hc2 : (q1.1 6 13) = 0
  · rw [if_pos hc2] at h
    refine ev_zft cdE_129 rfl (cn_t hc2) ?_
    refine ev_rn (n := 1) (i2 := 13) (L2 := [some (.ref 0), some (.int p0), some (.int p1)]) (st2 := [.long (-9223372036854775808 : Int64)]) (g2 := q1) cdE_129 rfl ?_
    cases h
    exact ev_ret rfl rfl
  · rw [if_neg hc2] at h
    refine ev_zff rfl (cn_f hc2) ?_
    refine ev_rn (n := 4) (i2 := 10) (L2 := [some (.ref 0), some (.int p0), some (.int p1)]) (st2 := [.int p0, .ref 7]) (g2 := q1) cdE_129 rfl ?_
    refine ev_call rfl cdE_66 rfl rfl rfl (e_Pl_has 7 p0 (by decide) q1 rfl) ?_
    by_cases hc3 : (f_Pl_has 7 p0 q1) = 0
    · rw [if_pos hc3] at h
      refine ev_zff rfl (cn_f (fun q => q hc3)) ?_
      refine ev_rn (n := 1) (i2 := 13) (L2 := [some (.ref 0), some (.int p0), some (.int p1)]) (st2 := [.long (-9223372036854775808 : Int64)]) (g2 := q1) cdE_129 rfl ?_
      cases h
      exact ev_ret rfl rfl
    · rw [if_neg hc3] at h
      refine ev_zft cdE_129 rfl (cn_t hc3) ?_
      refine ev_rn (n := 5) (i2 := 19) (L2 := [some (.ref 0), some (.int p0), some (.int p1)]) (st2 := [.int p0, .ref 49, .ref 0]) (g2 := q1) cdE_129 rfl ?_
      by_cases hi4 : inb p0 5
      · rw [if_pos hi4] at h
        refine ev_aaload (v := .ref (49 + 1 + p0.toNatClampNeg)) rfl (kd_of (na_at (na_49))) (by decide) hi4 (na_rf (w := 49) hi4.2) ?_
        refine ev_rn (n := 4) (i2 := 24) (L2 := [some (.ref 0), some (.int p0), some (.int p1)]) (st2 := [.int p1, .long (q1.2 6 16), .ref (49 + 1 + p0.toNatClampNeg), .ref 0]) (g2 := q1) cdE_129 rfl ?_
        obtain ⟨q5, hq5, h⟩ := Option.bind_eq_some_iff.mp h
        refine ev_call rfl cdE_128 rfl rfl rfl (e_Da_partOf (49 + 1 + p0.toNatClampNeg) (q1.2 6 16) p1 (na_el (na_49) hi4.2) q1 hq5) ?_
        cases h
        exact ev_ret rfl rfl
      · rw [if_neg hi4] at h
        cases h
def b_Mo_common_6  (v4 : Int64) (v6 : Int64) (g : M2) : Option ((Int64 × Int64) ⊕ Int64) := (if v6 = (0 : Int64) then some (.inr v4) else (if v6 = 0 then none else some (.inl (v6, (v4 - v4 / v6 * v6)))))
theorem tb_Mo_common_6 {Lx : Nat}   (v4 : Int64) (v6 : Int64) (g : M2) {b : (Int64 × Int64) ⊕ Int64} {o : Option Value × M2} (h : b_Mo_common_6 v4 v6 g = some b) (hb : Sum.elim (fun s => Ev Lx 130 cd_130 6 [none, none, none, none, some (.long s.1), none, some (.long s.2)] [] g o) (fun e => Ev Lx 130 cd_130 19 [none, none, none, none, some (.long e)] [] g o) b) : Ev Lx 130 cd_130 6 [none, none, none, none, some (.long v4), none, some (.long v6)] [] g o := by
  unfold b_Mo_common_6 at h
  refine ev_rn (n := 3) (i2 := 9) (L2 := [none, none, none, none, some (.long v4), none, some (.long v6)]) (st2 := [.int (lg_cmp v6 (0 : Int64))]) (g2 := g) cdE_130 rfl ?_
  by_cases hc1 : v6 = (0 : Int64)
  · rw [if_pos hc1] at h
    refine ev_zft cdE_130 rfl (lc_eq_t hc1) ?_
    cases h
    exact ev_wk (L := [none, none, none, none, some (.long v4)]) hb ⟨rfl, trivial⟩
  · rw [if_neg hc1] at h
    refine ev_zff rfl (lc_eq_f hc1) ?_
    refine ev_rn (n := 2) (i2 := 12) (L2 := [none, none, none, none, some (.long v4), none, some (.long v6)]) (st2 := [.long v6, .long v4]) (g2 := g) cdE_130 rfl ?_
    by_cases hd2 : v6 = 0
    · rw [if_pos hd2] at h
      cases h
    · rw [if_neg hd2] at h
      refine ev_lrem rfl hd2 ?_
      refine ev_rn (n := 1) (i2 := 14) (L2 := [none, none, none, none, some (.long v4), none, some (.long v6), none, some (.long (v4 - v4 / v6 * v6)), none]) (st2 := []) (g2 := g) cdE_130 rfl ?_
      refine ev_rn (n := 2) (i2 := 16) (L2 := [none, none, none, none, some (.long v6), none, some (.long v6), none, some (.long (v4 - v4 / v6 * v6)), none]) (st2 := []) (g2 := g) cdE_130 rfl ?_
      refine ev_rn (n := 2) (i2 := 18) (L2 := [none, none, none, none, some (.long v6), none, some (.long (v4 - v4 / v6 * v6)), none, some (.long (v4 - v4 / v6 * v6)), none]) (st2 := []) (g2 := g) cdE_130 rfl ?_
      refine ev_rn (n := 1) (i2 := 6) (L2 := [none, none, none, none, some (.long v6), none, some (.long (v4 - v4 / v6 * v6)), none, some (.long (v4 - v4 / v6 * v6)), none]) (st2 := []) (g2 := g) cdE_130 rfl ?_
      cases h
      exact ev_wk (L := [none, none, none, none, some (.long v6), none, some (.long (v4 - v4 / v6 * v6))]) hb ⟨rfl, ⟨rfl, trivial⟩⟩
def f_Mo_common (p0 : Int64) (p1 : Int64) (g : M2) : Option (Int64) := ((lp (fun s => b_Mo_common_6  s.1 s.2 g) 5000 ((f_Ma_abs p0 g), (f_Ma_abs p1 g))).bind fun e3 => some e3)
theorem e_Mo_common {Lx : Nat} (p0 : Int64) (p1 : Int64)  (g : M2) {b : Int64} (h : f_Mo_common p0 p1 g = some b) : Ev Lx 130 cd_130 0 [some (.long p0), none, some (.long p1), none] [] g (some (.long b), g) := by
  unfold f_Mo_common at h
  refine ev_rn (n := 1) (i2 := 1) (L2 := [some (.long p0), none, some (.long p1), none]) (st2 := [.long p0]) (g2 := g) cdE_130 rfl ?_
  refine ev_call rfl cdE_125 rfl rfl rfl (e_Ma_abs p0  g rfl) ?_
  refine ev_rn (n := 1) (i2 := 3) (L2 := [some (.long p0), none, some (.long p1), none, some (.long (f_Ma_abs p0 g)), none]) (st2 := []) (g2 := g) cdE_130 rfl ?_
  refine ev_rn (n := 1) (i2 := 4) (L2 := [some (.long p0), none, some (.long p1), none, some (.long (f_Ma_abs p0 g)), none]) (st2 := [.long p1]) (g2 := g) cdE_130 rfl ?_
  refine ev_call rfl cdE_125 rfl rfl rfl (e_Ma_abs p1  g rfl) ?_
  refine ev_rn (n := 1) (i2 := 6) (L2 := [some (.long p0), none, some (.long p1), none, some (.long (f_Ma_abs p0 g)), none, some (.long (f_Ma_abs p1 g)), none]) (st2 := []) (g2 := g) cdE_130 rfl ?_
  obtain ⟨e3, he3, h⟩ := Option.bind_eq_some_iff.mp h
  have hX4 : Ev Lx 130 cd_130 19 [none, none, none, none, some (.long e3)] [] g (some (.long b), g) := by
    refine ev_rn (n := 1) (i2 := 20) (L2 := [none, none, none, none, some (.long e3)]) (st2 := [.long e3]) (g2 := g) cdE_130 rfl ?_
    cases h
    exact ev_ret rfl rfl
  exact ev_wk (L := [none, none, none, none, some (.long (f_Ma_abs p0 g)), none, some (.long (f_Ma_abs p1 g))]) (lp_ind (P := (fun (s : (Int64 × Int64)) => Ev Lx 130 cd_130 6 [none, none, none, none, some (.long s.1), none, some (.long s.2)] [] g (some (.long b), g))) (fun s s2 hs hP => tb_Mo_common_6   s.1 s.2 g (b := .inl s2) hs hP) (fun s hs => tb_Mo_common_6   s.1 s.2 g (b := .inr e3) hs hX4) _ _ he3) ⟨rfl, ⟨rfl, trivial⟩⟩
def b_Mo_told_4 (v1 : Int32) (v2 : Int64) (v4 : Int32) (v5 : Int64) (v7 : Int32) (g : M2) : Option ((Int64 × Int32) ⊕ Int64) := (if (4 : Int32) ≤ v7 then some (.inr v5) else ((f_Mo_part v1 v7 g).bind fun q2 => ((f_Mo_common v5 q2 g).bind fun q3 => some (.inl (q3, (v7 + (1 : Int32)))))))
theorem tb_Mo_told_4 {Lx : Nat} (v1 : Int32) (v2 : Int64) (v4 : Int32)  (v5 : Int64) (v7 : Int32) (g : M2) {b : (Int64 × Int32) ⊕ Int64} {o : Option Value × M2} (h : b_Mo_told_4 v1 v2 v4 v5 v7 g = some b) (hb : Sum.elim (fun s => Ev Lx 131 cd_131 4 [some (.ref 157), some (.int v1), some (.long v2), none, some (.int v4), some (.long s.1), none, some (.int s.2)] [] g o) (fun e => Ev Lx 131 cd_131 16 [some (.ref 157), some (.int v1), some (.long v2), none, some (.int v4), some (.long e)] [] g o) b) : Ev Lx 131 cd_131 4 [some (.ref 157), some (.int v1), some (.long v2), none, some (.int v4), some (.long v5), none, some (.int v7)] [] g o := by
  unfold b_Mo_told_4 at h
  refine ev_rn (n := 2) (i2 := 6) (L2 := [some (.ref 157), some (.int v1), some (.long v2), none, some (.int v4), some (.long v5), none, some (.int v7)]) (st2 := [.int (4 : Int32), .int v7]) (g2 := g) cdE_131 rfl ?_
  by_cases hc1 : (4 : Int32) ≤ v7
  · rw [if_pos hc1] at h
    refine ev_ift cdE_131 rfl (cn_t hc1) ?_
    cases h
    exact ev_wk (L := [some (.ref 157), some (.int v1), some (.long v2), none, some (.int v4), some (.long v5)]) hb ⟨rfl, ⟨rfl, ⟨rfl, ⟨rfl, ⟨rfl, trivial⟩⟩⟩⟩⟩
  · rw [if_neg hc1] at h
    refine ev_iff rfl (cn_f hc1) ?_
    refine ev_rn (n := 4) (i2 := 11) (L2 := [some (.ref 157), some (.int v1), some (.long v2), none, some (.int v4), some (.long v5), none, some (.int v7)]) (st2 := [.int v7, .int v1, .ref 157, .long v5]) (g2 := g) cdE_131 rfl ?_
    obtain ⟨q2, hq2, h⟩ := Option.bind_eq_some_iff.mp h
    refine ev_call rfl cdE_110 rfl rfl rfl (e_Mo_part v1 v7  g hq2) ?_
    obtain ⟨q3, hq3, h⟩ := Option.bind_eq_some_iff.mp h
    refine ev_call rfl cdE_130 rfl rfl rfl (e_Mo_common v5 q2  g hq3) ?_
    refine ev_rn (n := 1) (i2 := 14) (L2 := [some (.ref 157), some (.int v1), some (.long v2), none, some (.int v4), some (.long q3), none, some (.int v7)]) (st2 := []) (g2 := g) cdE_131 rfl ?_
    refine ev_rn (n := 2) (i2 := 4) (L2 := [some (.ref 157), some (.int v1), some (.long v2), none, some (.int v4), some (.long q3), none, some (.int (v7 + (1 : Int32)))]) (st2 := []) (g2 := g) cdE_131 rfl ?_
    cases h
    exact ev_wk (L := [some (.ref 157), some (.int v1), some (.long v2), none, some (.int v4), some (.long q3), none, some (.int (v7 + (1 : Int32)))]) hb ⟨rfl, ⟨rfl, ⟨rfl, ⟨rfl, ⟨rfl, ⟨rfl, trivial⟩⟩⟩⟩⟩⟩
def f_Mo_told (p0 : Int32) (p1 : Int64) (p2 : Int32) (g : M2) : Option (Int64) := ((lp (fun s => b_Mo_told_4 p0 p1 p2 s.1 s.2 g) 5000 (p1, (0 : Int32))).bind fun e4 => (if p2 = (4 : Int32) then (if e4 = 0 then none else some (p1 / e4)) else ((f_Mo_part p0 p2 g).bind fun q6 => (if e4 = 0 then none else some (q6 / e4)))))
theorem e_Mo_told {Lx : Nat} (p0 : Int32) (p1 : Int64) (p2 : Int32)  (g : M2) {b : Int64} (h : f_Mo_told p0 p1 p2 g = some b) : Ev Lx 131 cd_131 0 [some (.ref 157), some (.int p0), some (.long p1), none, some (.int p2)] [] g (some (.long b), g) := by
  unfold f_Mo_told at h
  refine ev_rn (n := 2) (i2 := 2) (L2 := [some (.ref 157), some (.int p0), some (.long p1), none, some (.int p2), some (.long p1), none]) (st2 := []) (g2 := g) cdE_131 rfl ?_
  refine ev_rn (n := 2) (i2 := 4) (L2 := [some (.ref 157), some (.int p0), some (.long p1), none, some (.int p2), some (.long p1), none, some (.int (0 : Int32))]) (st2 := []) (g2 := g) cdE_131 rfl ?_
  obtain ⟨e4, he4, h⟩ := Option.bind_eq_some_iff.mp h
  have hX9 : Ev Lx 131 cd_131 16 [some (.ref 157), some (.int p0), some (.long p1), none, some (.int p2), some (.long e4)] [] g (some (.long b), g) := by
    refine ev_rn (n := 2) (i2 := 18) (L2 := [some (.ref 157), some (.int p0), some (.long p1), none, some (.int p2), some (.long e4)]) (st2 := [.int (4 : Int32), .int p2]) (g2 := g) cdE_131 rfl ?_
    by_cases hc5 : p2 = (4 : Int32)
    · rw [if_pos hc5] at h
      refine ev_iff rfl (cn_f (fun q => q hc5)) ?_
      refine ev_rn (n := 2) (i2 := 21) (L2 := [some (.ref 157), some (.int p0), some (.long p1), none, some (.int p2), some (.long e4)]) (st2 := [.long e4, .long p1]) (g2 := g) cdE_131 rfl ?_
      by_cases hd8 : e4 = 0
      · rw [if_pos hd8] at h
        cases h
      · rw [if_neg hd8] at h
        refine ev_ldiv rfl hd8 ?_
        refine ev_rn (n := 1) (i2 := 29) (L2 := [some (.ref 157), some (.int p0), some (.long p1), none, some (.int p2), some (.long e4)]) (st2 := [.long (p1 / e4)]) (g2 := g) cdE_131 rfl ?_
        cases h
        exact ev_ret rfl rfl
    · rw [if_neg hc5] at h
      refine ev_ift cdE_131 rfl (cn_t hc5) ?_
      refine ev_rn (n := 3) (i2 := 26) (L2 := [some (.ref 157), some (.int p0), some (.long p1), none, some (.int p2), some (.long e4)]) (st2 := [.int p2, .int p0, .ref 157]) (g2 := g) cdE_131 rfl ?_
      obtain ⟨q6, hq6, h⟩ := Option.bind_eq_some_iff.mp h
      refine ev_call rfl cdE_110 rfl rfl rfl (e_Mo_part p0 p2  g hq6) ?_
      refine ev_rn (n := 1) (i2 := 28) (L2 := [some (.ref 157), some (.int p0), some (.long p1), none, some (.int p2), some (.long e4)]) (st2 := [.long e4, .long q6]) (g2 := g) cdE_131 rfl ?_
      by_cases hd7 : e4 = 0
      · rw [if_pos hd7] at h
        cases h
      · rw [if_neg hd7] at h
        refine ev_ldiv rfl hd7 ?_
        cases h
        exact ev_ret rfl rfl
  exact ev_wk (L := [some (.ref 157), some (.int p0), some (.long p1), none, some (.int p2), some (.long p1), none, some (.int (0 : Int32))]) (lp_ind (P := (fun (s : (Int64 × Int32)) => Ev Lx 131 cd_131 4 [some (.ref 157), some (.int p0), some (.long p1), none, some (.int p2), some (.long s.1), none, some (.int s.2)] [] g (some (.long b), g))) (fun s s2 hs hP => tb_Mo_told_4 p0 p1 p2  s.1 s.2 g (b := .inl s2) hs hP) (fun s hs => tb_Mo_told_4 p0 p1 p2  s.1 s.2 g (b := .inr e4) hs hX9) _ _ he4) ⟨rfl, ⟨rfl, ⟨rfl, ⟨rfl, ⟨rfl, ⟨rfl, trivial⟩⟩⟩⟩⟩⟩
def f_Mo_weight (p0 : Int32) (p1 : Int32) (g : M2) : Option (Int64 × M2) := ((f_Mo_isElement p0 g).bind fun q1 => (if q1 = 0 then some ((-9223372036854775808 : Int64), g) else (if (f_Mo_in p1.toInt64 (0 : Int64) (4 : Int64) g) = 0 then some ((-9223372036854775808 : Int64), g) else ((f_Mo_canNow g).bind fun q4 => (if q4.1 = 0 then some ((-9223372036854775808 : Int64), q4.2) else (if inb p0 5 then (if (q4.2.1 166 p0.toNatClampNeg) = (-1 : Int32) then (if p1 = (4 : Int32) then some ((1 : Int64), q4.2) else some ((0 : Int64), q4.2)) else (if inb p0 5 then ((f_Mo_told ((62 : Int32) + (q4.2.1 166 p0.toNatClampNeg)) (q4.2.2 157 16) p1 q4.2).bind fun q9 => some (q9, q4.2)) else none)) else none))))))
theorem e_Mo_weight {Lx : Nat} (p0 : Int32) (p1 : Int32)  (g : M2) {b : (Int64 × M2)} (h : f_Mo_weight p0 p1 g = some b) : Ev Lx 132 cd_132 0 [some (.ref 157), some (.int p0), some (.int p1)] [] g (some (.long b.1), b.2) := by
  unfold f_Mo_weight at h
  refine ev_rn (n := 2) (i2 := 2) (L2 := [some (.ref 157), some (.int p0), some (.int p1)]) (st2 := [.int p0, .ref 157]) (g2 := g) cdE_132 rfl ?_
  obtain ⟨q1, hq1, h⟩ := Option.bind_eq_some_iff.mp h
  refine ev_call rfl cdE_69 rfl rfl rfl (e_Mo_isElement p0  g hq1) ?_
  by_cases hc2 : q1 = 0
  · rw [if_pos hc2] at h
    refine ev_zft cdE_132 rfl (cn_t hc2) ?_
    refine ev_rn (n := 1) (i2 := 14) (L2 := [some (.ref 157), some (.int p0), some (.int p1)]) (st2 := [.long (-9223372036854775808 : Int64)]) (g2 := g) cdE_132 rfl ?_
    cases h
    exact ev_ret rfl rfl
  · rw [if_neg hc2] at h
    refine ev_zff rfl (cn_f hc2) ?_
    refine ev_rn (n := 4) (i2 := 8) (L2 := [some (.ref 157), some (.int p0), some (.int p1)]) (st2 := [.long (4 : Int64), .long (0 : Int64), .long p1.toInt64]) (g2 := g) cdE_132 rfl ?_
    refine ev_call rfl cdE_16 rfl rfl rfl (e_Mo_in p1.toInt64 (0 : Int64) (4 : Int64)  g rfl) ?_
    by_cases hc3 : (f_Mo_in p1.toInt64 (0 : Int64) (4 : Int64) g) = 0
    · rw [if_pos hc3] at h
      refine ev_zft cdE_132 rfl (cn_t hc3) ?_
      refine ev_rn (n := 1) (i2 := 14) (L2 := [some (.ref 157), some (.int p0), some (.int p1)]) (st2 := [.long (-9223372036854775808 : Int64)]) (g2 := g) cdE_132 rfl ?_
      cases h
      exact ev_ret rfl rfl
    · rw [if_neg hc3] at h
      refine ev_zff rfl (cn_f hc3) ?_
      refine ev_rn (n := 1) (i2 := 11) (L2 := [some (.ref 157), some (.int p0), some (.int p1)]) (st2 := [.ref 157]) (g2 := g) cdE_132 rfl ?_
      obtain ⟨q4, hq4, h⟩ := Option.bind_eq_some_iff.mp h
      refine ev_call rfl cdE_118 rfl rfl rfl (e_Mo_canNow   g hq4) ?_
      by_cases hc5 : q4.1 = 0
      · rw [if_pos hc5] at h
        refine ev_zff rfl (cn_f (fun q => q hc5)) ?_
        refine ev_rn (n := 1) (i2 := 14) (L2 := [some (.ref 157), some (.int p0), some (.int p1)]) (st2 := [.long (-9223372036854775808 : Int64)]) (g2 := q4.2) cdE_132 rfl ?_
        cases h
        exact ev_ret rfl rfl
      · rw [if_neg hc5] at h
        refine ev_zft cdE_132 rfl (cn_t hc5) ?_
        refine ev_rn (n := 3) (i2 := 18) (L2 := [some (.ref 157), some (.int p0), some (.int p1)]) (st2 := [.int p0, .ref 166]) (g2 := q4.2) cdE_132 rfl ?_
        by_cases hi6 : inb p0 5
        · rw [if_pos hi6] at h
          refine ev_iaload (v := .int (q4.2.1 166 p0.toNatClampNeg)) rfl (kd_of (show S0[166]? = some (100, 5, List.replicate 5 none) from rfl)) (by decide) hi6 rfl ?_
          refine ev_rn (n := 1) (i2 := 20) (L2 := [some (.ref 157), some (.int p0), some (.int p1)]) (st2 := [.int (-1 : Int32), .int (q4.2.1 166 p0.toNatClampNeg)]) (g2 := q4.2) cdE_132 rfl ?_
          by_cases hc7 : (q4.2.1 166 p0.toNatClampNeg) = (-1 : Int32)
          · rw [if_pos hc7] at h
            refine ev_iff rfl (cn_f (fun q => q hc7)) ?_
            refine ev_rn (n := 2) (i2 := 23) (L2 := [some (.ref 157), some (.int p0), some (.int p1)]) (st2 := [.int (4 : Int32), .int p1]) (g2 := q4.2) cdE_132 rfl ?_
            by_cases hc10 : p1 = (4 : Int32)
            · rw [if_pos hc10] at h
              refine ev_iff rfl (cn_f (fun q => q hc10)) ?_
              refine ev_rn (n := 2) (i2 := 27) (L2 := [some (.ref 157), some (.int p0), some (.int p1)]) (st2 := [.long (1 : Int64)]) (g2 := q4.2) cdE_132 rfl ?_
              cases h
              exact ev_ret rfl rfl
            · rw [if_neg hc10] at h
              refine ev_ift cdE_132 rfl (cn_t hc10) ?_
              refine ev_rn (n := 1) (i2 := 27) (L2 := [some (.ref 157), some (.int p0), some (.int p1)]) (st2 := [.long (0 : Int64)]) (g2 := q4.2) cdE_132 rfl ?_
              cases h
              exact ev_ret rfl rfl
          · rw [if_neg hc7] at h
            refine ev_ift cdE_132 rfl (cn_t hc7) ?_
            refine ev_rn (n := 5) (i2 := 33) (L2 := [some (.ref 157), some (.int p0), some (.int p1)]) (st2 := [.int p0, .ref 166, .int (62 : Int32), .ref 157]) (g2 := q4.2) cdE_132 rfl ?_
            by_cases hi8 : inb p0 5
            · rw [if_pos hi8] at h
              refine ev_iaload (v := .int (q4.2.1 166 p0.toNatClampNeg)) rfl (kd_of (show S0[166]? = some (100, 5, List.replicate 5 none) from rfl)) (by decide) hi8 rfl ?_
              refine ev_rn (n := 4) (i2 := 38) (L2 := [some (.ref 157), some (.int p0), some (.int p1)]) (st2 := [.int p1, .long (q4.2.2 157 16), .int ((62 : Int32) + (q4.2.1 166 p0.toNatClampNeg)), .ref 157]) (g2 := q4.2) cdE_132 rfl ?_
              obtain ⟨q9, hq9, h⟩ := Option.bind_eq_some_iff.mp h
              refine ev_call rfl cdE_131 rfl rfl rfl (e_Mo_told ((62 : Int32) + (q4.2.1 166 p0.toNatClampNeg)) (q4.2.2 157 16) p1  q4.2 hq9) ?_
              cases h
              exact ev_ret rfl rfl
            · rw [if_neg hi8] at h
              cases h
        · rw [if_neg hi6] at h
          cases h
def f_Da_gain (p0 : Int32) (p1 : Int32) (g : M2) : Option (Int64 × M2) := ((f_Da_refresh g).bind fun q1 => (if (q1.1 6 13) = 0 then some ((-9223372036854775808 : Int64), q1) else (if (f_Da_isDirection p0 q1) = 0 then some ((-9223372036854775808 : Int64), q1) else (if inb p0 12 then ((f_Da_partOf (55 + 1 + p0.toNatClampNeg) (q1.2 6 16) p1 q1).bind fun q5 => some (q5.1, q5.2)) else none))))
theorem e_Da_gain {Lx : Nat} (p0 : Int32) (p1 : Int32)  (g : M2) {b : (Int64 × M2)} (h : f_Da_gain p0 p1 g = some b) : Ev Lx 133 cd_133 0 [some (.ref 0), some (.int p0), some (.int p1)] [] g (some (.long b.1), b.2) := by
  unfold f_Da_gain at h
  refine ev_rn (n := 1) (i2 := 1) (L2 := [some (.ref 0), some (.int p0), some (.int p1)]) (st2 := [.ref 0]) (g2 := g) cdE_133 rfl ?_
  obtain ⟨q1, hq1, h⟩ := Option.bind_eq_some_iff.mp h
  refine ev_call rfl cdE_100 rfl rfl rfl (e_Da_refresh   g hq1) ?_
  refine ev_rn (n := 3) (i2 := 5) (L2 := [some (.ref 0), some (.int p0), some (.int p1)]) (st2 := [.int (q1.1 6 13)]) (g2 := q1) cdE_133 rfl ?_
  by_cases hc2 : (q1.1 6 13) = 0
  · rw [if_pos hc2] at h
    refine ev_zft cdE_133 rfl (cn_t hc2) ?_
    refine ev_rn (n := 1) (i2 := 10) (L2 := [some (.ref 0), some (.int p0), some (.int p1)]) (st2 := [.long (-9223372036854775808 : Int64)]) (g2 := q1) cdE_133 rfl ?_
    cases h
    exact ev_ret rfl rfl
  · rw [if_neg hc2] at h
    refine ev_zff rfl (cn_f hc2) ?_
    refine ev_rn (n := 1) (i2 := 7) (L2 := [some (.ref 0), some (.int p0), some (.int p1)]) (st2 := [.int p0]) (g2 := q1) cdE_133 rfl ?_
    refine ev_call rfl cdE_71 rfl rfl rfl (e_Da_isDirection p0  q1 rfl) ?_
    by_cases hc3 : (f_Da_isDirection p0 q1) = 0
    · rw [if_pos hc3] at h
      refine ev_zff rfl (cn_f (fun q => q hc3)) ?_
      refine ev_rn (n := 1) (i2 := 10) (L2 := [some (.ref 0), some (.int p0), some (.int p1)]) (st2 := [.long (-9223372036854775808 : Int64)]) (g2 := q1) cdE_133 rfl ?_
      cases h
      exact ev_ret rfl rfl
    · rw [if_neg hc3] at h
      refine ev_zft cdE_133 rfl (cn_t hc3) ?_
      refine ev_rn (n := 5) (i2 := 16) (L2 := [some (.ref 0), some (.int p0), some (.int p1)]) (st2 := [.int p0, .ref 55, .ref 0]) (g2 := q1) cdE_133 rfl ?_
      by_cases hi4 : inb p0 12
      · rw [if_pos hi4] at h
        refine ev_aaload (v := .ref (55 + 1 + p0.toNatClampNeg)) rfl (kd_of (na_at (na_55))) (by decide) hi4 (na_rf (w := 55) hi4.2) ?_
        refine ev_rn (n := 4) (i2 := 21) (L2 := [some (.ref 0), some (.int p0), some (.int p1)]) (st2 := [.int p1, .long (q1.2 6 16), .ref (55 + 1 + p0.toNatClampNeg), .ref 0]) (g2 := q1) cdE_133 rfl ?_
        obtain ⟨q5, hq5, h⟩ := Option.bind_eq_some_iff.mp h
        refine ev_call rfl cdE_128 rfl rfl rfl (e_Da_partOf (55 + 1 + p0.toNatClampNeg) (q1.2 6 16) p1 (na_el (na_55) hi4.2) q1 hq5) ?_
        cases h
        exact ev_ret rfl rfl
      · rw [if_neg hi4] at h
        cases h
def f_Mo_gain (p0 : Int32) (p1 : Int32) (g : M2) : Option (Int64 × M2) := (if (f_Mo_isDirection p0 g) = 0 then some ((-9223372036854775808 : Int64), g) else (if (f_Mo_in p1.toInt64 (0 : Int64) (4 : Int64) g) = 0 then some ((-9223372036854775808 : Int64), g) else ((f_Mo_canNow g).bind fun q3 => (if q3.1 = 0 then some ((-9223372036854775808 : Int64), q3.2) else ((f_Mo_told ((67 : Int32) + p0) (q3.2.2 157 16) p1 q3.2).bind fun q5 => some (q5, q3.2))))))
theorem e_Mo_gain {Lx : Nat} (p0 : Int32) (p1 : Int32)  (g : M2) {b : (Int64 × M2)} (h : f_Mo_gain p0 p1 g = some b) : Ev Lx 134 cd_134 0 [some (.ref 157), some (.int p0), some (.int p1)] [] g (some (.long b.1), b.2) := by
  unfold f_Mo_gain at h
  refine ev_rn (n := 1) (i2 := 1) (L2 := [some (.ref 157), some (.int p0), some (.int p1)]) (st2 := [.int p0]) (g2 := g) cdE_134 rfl ?_
  refine ev_call rfl cdE_73 rfl rfl rfl (e_Mo_isDirection p0  g rfl) ?_
  by_cases hc1 : (f_Mo_isDirection p0 g) = 0
  · rw [if_pos hc1] at h
    refine ev_zft cdE_134 rfl (cn_t hc1) ?_
    refine ev_rn (n := 1) (i2 := 13) (L2 := [some (.ref 157), some (.int p0), some (.int p1)]) (st2 := [.long (-9223372036854775808 : Int64)]) (g2 := g) cdE_134 rfl ?_
    cases h
    exact ev_ret rfl rfl
  · rw [if_neg hc1] at h
    refine ev_zff rfl (cn_f hc1) ?_
    refine ev_rn (n := 4) (i2 := 7) (L2 := [some (.ref 157), some (.int p0), some (.int p1)]) (st2 := [.long (4 : Int64), .long (0 : Int64), .long p1.toInt64]) (g2 := g) cdE_134 rfl ?_
    refine ev_call rfl cdE_16 rfl rfl rfl (e_Mo_in p1.toInt64 (0 : Int64) (4 : Int64)  g rfl) ?_
    by_cases hc2 : (f_Mo_in p1.toInt64 (0 : Int64) (4 : Int64) g) = 0
    · rw [if_pos hc2] at h
      refine ev_zft cdE_134 rfl (cn_t hc2) ?_
      refine ev_rn (n := 1) (i2 := 13) (L2 := [some (.ref 157), some (.int p0), some (.int p1)]) (st2 := [.long (-9223372036854775808 : Int64)]) (g2 := g) cdE_134 rfl ?_
      cases h
      exact ev_ret rfl rfl
    · rw [if_neg hc2] at h
      refine ev_zff rfl (cn_f hc2) ?_
      refine ev_rn (n := 1) (i2 := 10) (L2 := [some (.ref 157), some (.int p0), some (.int p1)]) (st2 := [.ref 157]) (g2 := g) cdE_134 rfl ?_
      obtain ⟨q3, hq3, h⟩ := Option.bind_eq_some_iff.mp h
      refine ev_call rfl cdE_118 rfl rfl rfl (e_Mo_canNow   g hq3) ?_
      by_cases hc4 : q3.1 = 0
      · rw [if_pos hc4] at h
        refine ev_zff rfl (cn_f (fun q => q hc4)) ?_
        refine ev_rn (n := 1) (i2 := 13) (L2 := [some (.ref 157), some (.int p0), some (.int p1)]) (st2 := [.long (-9223372036854775808 : Int64)]) (g2 := q3.2) cdE_134 rfl ?_
        cases h
        exact ev_ret rfl rfl
      · rw [if_neg hc4] at h
        refine ev_zft cdE_134 rfl (cn_t hc4) ?_
        refine ev_rn (n := 7) (i2 := 21) (L2 := [some (.ref 157), some (.int p0), some (.int p1)]) (st2 := [.int p1, .long (q3.2.2 157 16), .int ((67 : Int32) + p0), .ref 157]) (g2 := q3.2) cdE_134 rfl ?_
        obtain ⟨q5, hq5, h⟩ := Option.bind_eq_some_iff.mp h
        refine ev_call rfl cdE_131 rfl rfl rfl (e_Mo_told ((67 : Int32) + p0) (q3.2.2 157 16) p1  q3.2 hq5) ?_
        cases h
        exact ev_ret rfl rfl
def f_Da_realPart (p0 : Int64) (p1 : Int64) (p2 : Int64) (p3 : Int32) (g : M2) : Option (Int64) := ((f_Da_commonDivisor p2 p0 g).bind fun q1 => ((f_Da_commonDivisor q1 p1 g).bind fun q2 => (if q2 = (0 : Int64) then some (-9223372036854775808 : Int64) else (if (f_Da_isAmong p3 (3 : Int32) g) = 0 then some (-9223372036854775808 : Int64) else (if p3 = 0 then (if q2 = 0 then none else some (p0 / q2)) else (if p3 = (1 : Int32) then (if q2 = 0 then none else some (p1 / q2)) else (if q2 = 0 then none else some (p2 / q2))))))))
theorem e_Da_realPart {Lx : Nat} (p0 : Int64) (p1 : Int64) (p2 : Int64) (p3 : Int32)  (g : M2) {b : Int64} (h : f_Da_realPart p0 p1 p2 p3 g = some b) : Ev Lx 135 cd_135 0 [some (.long p0), none, some (.long p1), none, some (.long p2), none, some (.int p3)] [] g (some (.long b), g) := by
  unfold f_Da_realPart at h
  refine ev_rn (n := 2) (i2 := 2) (L2 := [some (.long p0), none, some (.long p1), none, some (.long p2), none, some (.int p3)]) (st2 := [.long p0, .long p2]) (g2 := g) cdE_135 rfl ?_
  obtain ⟨q1, hq1, h⟩ := Option.bind_eq_some_iff.mp h
  refine ev_call rfl cdE_126 rfl rfl rfl (e_Da_commonDivisor p2 p0  g hq1) ?_
  refine ev_rn (n := 1) (i2 := 4) (L2 := [some (.long p0), none, some (.long p1), none, some (.long p2), none, some (.int p3)]) (st2 := [.long p1, .long q1]) (g2 := g) cdE_135 rfl ?_
  obtain ⟨q2, hq2, h⟩ := Option.bind_eq_some_iff.mp h
  refine ev_call rfl cdE_126 rfl rfl rfl (e_Da_commonDivisor q1 p1  g hq2) ?_
  refine ev_rn (n := 1) (i2 := 6) (L2 := [some (.long p0), none, some (.long p1), none, some (.long p2), none, some (.int p3), some (.long q2), none]) (st2 := []) (g2 := g) cdE_135 rfl ?_
  refine ev_rn (n := 3) (i2 := 9) (L2 := [some (.long p0), none, some (.long p1), none, some (.long p2), none, some (.int p3), some (.long q2), none]) (st2 := [.int (lg_cmp q2 (0 : Int64))]) (g2 := g) cdE_135 rfl ?_
  by_cases hc3 : q2 = (0 : Int64)
  · rw [if_pos hc3] at h
    refine ev_zft cdE_135 rfl (lc_eq_t hc3) ?_
    refine ev_rn (n := 1) (i2 := 15) (L2 := [some (.long p0), none, some (.long p1), none, some (.long p2), none, some (.int p3), some (.long q2), none]) (st2 := [.long (-9223372036854775808 : Int64)]) (g2 := g) cdE_135 rfl ?_
    cases h
    exact ev_ret rfl rfl
  · rw [if_neg hc3] at h
    refine ev_zff rfl (lc_eq_f hc3) ?_
    refine ev_rn (n := 2) (i2 := 12) (L2 := [some (.long p0), none, some (.long p1), none, some (.long p2), none, some (.int p3), some (.long q2), none]) (st2 := [.int (3 : Int32), .int p3]) (g2 := g) cdE_135 rfl ?_
    refine ev_call rfl cdE_65 rfl rfl rfl (e_Da_isAmong p3 (3 : Int32)  g rfl) ?_
    by_cases hc4 : (f_Da_isAmong p3 (3 : Int32) g) = 0
    · rw [if_pos hc4] at h
      refine ev_zff rfl (cn_f (fun q => q hc4)) ?_
      refine ev_rn (n := 1) (i2 := 15) (L2 := [some (.long p0), none, some (.long p1), none, some (.long p2), none, some (.int p3), some (.long q2), none]) (st2 := [.long (-9223372036854775808 : Int64)]) (g2 := g) cdE_135 rfl ?_
      cases h
      exact ev_ret rfl rfl
    · rw [if_neg hc4] at h
      refine ev_zft cdE_135 rfl (cn_t hc4) ?_
      refine ev_rn (n := 1) (i2 := 17) (L2 := [some (.long p0), none, some (.long p1), none, some (.long p2), none, some (.int p3), some (.long q2), none]) (st2 := [.int p3]) (g2 := g) cdE_135 rfl ?_
      by_cases hc5 : p3 = 0
      · rw [if_pos hc5] at h
        refine ev_zff rfl (cn_f (fun q => q hc5)) ?_
        refine ev_rn (n := 2) (i2 := 20) (L2 := [some (.long p0), none, some (.long p1), none, some (.long p2), none, some (.int p3), some (.long q2), none]) (st2 := [.long q2, .long p0]) (g2 := g) cdE_135 rfl ?_
        by_cases hd9 : q2 = 0
        · rw [if_pos hd9] at h
          cases h
        · rw [if_neg hd9] at h
          refine ev_ldiv rfl hd9 ?_
          cases h
          exact ev_ret rfl rfl
      · rw [if_neg hc5] at h
        refine ev_zft cdE_135 rfl (cn_t hc5) ?_
        refine ev_rn (n := 2) (i2 := 24) (L2 := [some (.long p0), none, some (.long p1), none, some (.long p2), none, some (.int p3), some (.long q2), none]) (st2 := [.int (1 : Int32), .int p3]) (g2 := g) cdE_135 rfl ?_
        by_cases hc6 : p3 = (1 : Int32)
        · rw [if_pos hc6] at h
          refine ev_iff rfl (cn_f (fun q => q hc6)) ?_
          refine ev_rn (n := 3) (i2 := 29) (L2 := [some (.long p0), none, some (.long p1), none, some (.long p2), none, some (.int p3), some (.long q2), none]) (st2 := [.long q2, .long p1]) (g2 := g) cdE_135 rfl ?_
          by_cases hd8 : q2 = 0
          · rw [if_pos hd8] at h
            cases h
          · rw [if_neg hd8] at h
            refine ev_ldiv rfl hd8 ?_
            cases h
            exact ev_ret rfl rfl
        · rw [if_neg hc6] at h
          refine ev_ift cdE_135 rfl (cn_t hc6) ?_
          refine ev_rn (n := 2) (i2 := 29) (L2 := [some (.long p0), none, some (.long p1), none, some (.long p2), none, some (.int p3), some (.long q2), none]) (st2 := [.long q2, .long p2]) (g2 := g) cdE_135 rfl ?_
          by_cases hd7 : q2 = 0
          · rw [if_pos hd7] at h
            cases h
          · rw [if_neg hd7] at h
            refine ev_ldiv rfl hd7 ?_
            cases h
            exact ev_ret rfl rfl
def f_Da_power (p0 : Int32) (p1 : Int32) (g : M2) : Option (Int64 × M2) := ((f_Da_refresh g).bind fun q1 => (if (q1.1 6 13) = 0 then some ((-9223372036854775808 : Int64), q1) else (if (f_Da_isDirection p0 q1) = 0 then some ((-9223372036854775808 : Int64), q1) else (if inb p0 12 then (if inb p0 12 then ((f_Da_realPart (q1.2 68 p0.toNatClampNeg) (q1.2 69 p0.toNatClampNeg) ((q1.2 6 16) * (q1.2 6 16)) p1 q1).bind fun q6 => some (q6, q1)) else none) else none))))
theorem e_Da_power {Lx : Nat} (p0 : Int32) (p1 : Int32)  (g : M2) {b : (Int64 × M2)} (h : f_Da_power p0 p1 g = some b) : Ev Lx 136 cd_136 0 [some (.ref 0), some (.int p0), some (.int p1)] [] g (some (.long b.1), b.2) := by
  unfold f_Da_power at h
  refine ev_rn (n := 1) (i2 := 1) (L2 := [some (.ref 0), some (.int p0), some (.int p1)]) (st2 := [.ref 0]) (g2 := g) cdE_136 rfl ?_
  obtain ⟨q1, hq1, h⟩ := Option.bind_eq_some_iff.mp h
  refine ev_call rfl cdE_100 rfl rfl rfl (e_Da_refresh   g hq1) ?_
  refine ev_rn (n := 3) (i2 := 5) (L2 := [some (.ref 0), some (.int p0), some (.int p1)]) (st2 := [.int (q1.1 6 13)]) (g2 := q1) cdE_136 rfl ?_
  by_cases hc2 : (q1.1 6 13) = 0
  · rw [if_pos hc2] at h
    refine ev_zft cdE_136 rfl (cn_t hc2) ?_
    refine ev_rn (n := 1) (i2 := 10) (L2 := [some (.ref 0), some (.int p0), some (.int p1)]) (st2 := [.long (-9223372036854775808 : Int64)]) (g2 := q1) cdE_136 rfl ?_
    cases h
    exact ev_ret rfl rfl
  · rw [if_neg hc2] at h
    refine ev_zff rfl (cn_f hc2) ?_
    refine ev_rn (n := 1) (i2 := 7) (L2 := [some (.ref 0), some (.int p0), some (.int p1)]) (st2 := [.int p0]) (g2 := q1) cdE_136 rfl ?_
    refine ev_call rfl cdE_71 rfl rfl rfl (e_Da_isDirection p0  q1 rfl) ?_
    by_cases hc3 : (f_Da_isDirection p0 q1) = 0
    · rw [if_pos hc3] at h
      refine ev_zff rfl (cn_f (fun q => q hc3)) ?_
      refine ev_rn (n := 1) (i2 := 10) (L2 := [some (.ref 0), some (.int p0), some (.int p1)]) (st2 := [.long (-9223372036854775808 : Int64)]) (g2 := q1) cdE_136 rfl ?_
      cases h
      exact ev_ret rfl rfl
    · rw [if_neg hc3] at h
      refine ev_zft cdE_136 rfl (cn_t hc3) ?_
      refine ev_rn (n := 4) (i2 := 15) (L2 := [some (.ref 0), some (.int p0), some (.int p1)]) (st2 := [.int p0, .ref 68]) (g2 := q1) cdE_136 rfl ?_
      by_cases hi4 : inb p0 12
      · rw [if_pos hi4] at h
        refine ev_laload (v := .long (q1.2 68 p0.toNatClampNeg)) rfl (kd_of (show S0[68]? = some (101, 12, List.replicate 12 none) from rfl)) (by decide) hi4 rfl ?_
        refine ev_rn (n := 4) (i2 := 20) (L2 := [some (.ref 0), some (.int p0), some (.int p1)]) (st2 := [.int p0, .ref 69, .long (q1.2 68 p0.toNatClampNeg)]) (g2 := q1) cdE_136 rfl ?_
        by_cases hi5 : inb p0 12
        · rw [if_pos hi5] at h
          refine ev_laload (v := .long (q1.2 69 p0.toNatClampNeg)) rfl (kd_of (show S0[69]? = some (101, 12, List.replicate 12 none) from rfl)) (by decide) hi5 rfl ?_
          refine ev_rn (n := 8) (i2 := 29) (L2 := [some (.ref 0), some (.int p0), some (.int p1)]) (st2 := [.int p1, .long ((q1.2 6 16) * (q1.2 6 16)), .long (q1.2 69 p0.toNatClampNeg), .long (q1.2 68 p0.toNatClampNeg)]) (g2 := q1) cdE_136 rfl ?_
          obtain ⟨q6, hq6, h⟩ := Option.bind_eq_some_iff.mp h
          refine ev_call rfl cdE_135 rfl rfl rfl (e_Da_realPart (q1.2 68 p0.toNatClampNeg) (q1.2 69 p0.toNatClampNeg) ((q1.2 6 16) * (q1.2 6 16)) p1  q1 hq6) ?_
          cases h
          exact ev_ret rfl rfl
        · rw [if_neg hi5] at h
          cases h
      · rw [if_neg hi4] at h
        cases h
def b_Mo_laysPower_5 (v1 : Int32) (v2 : Int32) (g : M2) : Option ((Int32 × M2) ⊕ M2) := (if (4 : Int32) ≤ v2 then some (.inr g) else ((f_Mo_part v1 v2 g).bind fun q3 => ((f_Mo_addsPower (81 : Int32) (-v2) q3 g).bind fun q4 => some (.inl ((v2 + (1 : Int32)), q4)))))
theorem tb_Mo_laysPower_5 {Lx : Nat} (v1 : Int32)  (v2 : Int32) (g : M2) {b : (Int32 × M2) ⊕ M2} {o : Option Value × M2} (h : b_Mo_laysPower_5 v1 v2 g = some b) (hb : Sum.elim (fun s => Ev Lx 137 cd_137 5 [some (.ref 157), some (.int v1), some (.int s.1)] [] s.2 o) (fun e => Ev Lx 137 cd_137 19 [some (.ref 157), some (.int v1)] [] e o) b) : Ev Lx 137 cd_137 5 [some (.ref 157), some (.int v1), some (.int v2)] [] g o := by
  unfold b_Mo_laysPower_5 at h
  refine ev_rn (n := 2) (i2 := 7) (L2 := [some (.ref 157), some (.int v1), some (.int v2)]) (st2 := [.int (4 : Int32), .int v2]) (g2 := g) cdE_137 rfl ?_
  by_cases hc2 : (4 : Int32) ≤ v2
  · rw [if_pos hc2] at h
    refine ev_ift cdE_137 rfl (cn_t hc2) ?_
    cases h
    exact ev_wk (L := [some (.ref 157), some (.int v1)]) hb ⟨rfl, ⟨rfl, trivial⟩⟩
  · rw [if_neg hc2] at h
    refine ev_iff rfl (cn_f hc2) ?_
    refine ev_rn (n := 7) (i2 := 15) (L2 := [some (.ref 157), some (.int v1), some (.int v2)]) (st2 := [.int v2, .int v1, .ref 157, .int (-v2), .int (81 : Int32), .ref 157]) (g2 := g) cdE_137 rfl ?_
    obtain ⟨q3, hq3, h⟩ := Option.bind_eq_some_iff.mp h
    refine ev_call rfl cdE_110 rfl rfl rfl (e_Mo_part v1 v2  g hq3) ?_
    obtain ⟨q4, hq4, h⟩ := Option.bind_eq_some_iff.mp h
    refine ev_call rfl cdE_106 rfl rfl rfl (e_Mo_addsPower (81 : Int32) (-v2) q3  g hq4) ?_
    refine ev_rn (n := 2) (i2 := 5) (L2 := [some (.ref 157), some (.int v1), some (.int (v2 + (1 : Int32)))]) (st2 := []) (g2 := q4) cdE_137 rfl ?_
    cases h
    exact ev_wk (L := [some (.ref 157), some (.int v1), some (.int (v2 + (1 : Int32)))]) hb ⟨rfl, ⟨rfl, ⟨rfl, trivial⟩⟩⟩
def f_Mo_laysPower (p0 : Int32) (g : M2) : Option (M2) := ((f_Mo_clears (81 : Int32) g).bind fun q1 => ((lp (fun s => b_Mo_laysPower_5 p0 s.1 s.2) 5000 ((0 : Int32), q1)).bind fun e5 => ((f_Mo_clears (80 : Int32) e5).bind fun q6 => ((f_Mo_addsProduct (80 : Int32) p0 (81 : Int32) (1 : Int64) q6).bind fun q7 => ((f_Mo_part (80 : Int32) (0 : Int32) q7).bind fun q8 => (bd (uJ q7 157 3 q8) fun g9 => ((f_Mo_part (80 : Int32) (3 : Int32) g9).bind fun q10 => (bd (uJ g9 157 4 (-q10)) fun g11 => some g11))))))))
theorem e_Mo_laysPower {Lx : Nat} (p0 : Int32)  (g : M2) {b : M2} (h : f_Mo_laysPower p0 g = some b) : Ev Lx 137 cd_137 0 [some (.ref 157), some (.int p0)] [] g (none, b) := by
  unfold f_Mo_laysPower at h
  refine ev_rn (n := 2) (i2 := 2) (L2 := [some (.ref 157), some (.int p0)]) (st2 := [.int (81 : Int32), .ref 157]) (g2 := g) cdE_137 rfl ?_
  obtain ⟨q1, hq1, h⟩ := Option.bind_eq_some_iff.mp h
  refine ev_call rfl cdE_104 rfl rfl rfl (e_Mo_clears (81 : Int32)  g hq1) ?_
  refine ev_rn (n := 2) (i2 := 5) (L2 := [some (.ref 157), some (.int p0), some (.int (0 : Int32))]) (st2 := []) (g2 := q1) cdE_137 rfl ?_
  obtain ⟨e5, he5, h⟩ := Option.bind_eq_some_iff.mp h
  have hX12 : Ev Lx 137 cd_137 19 [some (.ref 157), some (.int p0)] [] e5 (none, b) := by
    refine ev_rn (n := 2) (i2 := 21) (L2 := [some (.ref 157), some (.int p0)]) (st2 := [.int (80 : Int32), .ref 157]) (g2 := e5) cdE_137 rfl ?_
    obtain ⟨q6, hq6, h⟩ := Option.bind_eq_some_iff.mp h
    refine ev_call rfl cdE_104 rfl rfl rfl (e_Mo_clears (80 : Int32)  e5 hq6) ?_
    refine ev_rn (n := 5) (i2 := 27) (L2 := [some (.ref 157), some (.int p0)]) (st2 := [.long (1 : Int64), .int (81 : Int32), .int p0, .int (80 : Int32), .ref 157]) (g2 := q6) cdE_137 rfl ?_
    obtain ⟨q7, hq7, h⟩ := Option.bind_eq_some_iff.mp h
    refine ev_call rfl cdE_108 rfl rfl rfl (e_Mo_addsProduct (80 : Int32) p0 (81 : Int32) (1 : Int64)  q6 hq7) ?_
    refine ev_rn (n := 4) (i2 := 32) (L2 := [some (.ref 157), some (.int p0)]) (st2 := [.int (0 : Int32), .int (80 : Int32), .ref 157, .ref 157]) (g2 := q7) cdE_137 rfl ?_
    obtain ⟨q8, hq8, h⟩ := Option.bind_eq_some_iff.mp h
    refine ev_call rfl cdE_110 rfl rfl rfl (e_Mo_part (80 : Int32) (0 : Int32)  q7 hq8) ?_
    refine bd_elim h (fun g9 hg9 h => ?_)
    refine ev_pf (g2 := g9) rfl (rfl : S0[157]? = some _) (by decide) (by rw [hg9] <;> rfl) ?_
    refine ev_rn (n := 4) (i2 := 38) (L2 := [some (.ref 157), some (.int p0)]) (st2 := [.int (3 : Int32), .int (80 : Int32), .ref 157, .ref 157]) (g2 := g9) cdE_137 rfl ?_
    obtain ⟨q10, hq10, h⟩ := Option.bind_eq_some_iff.mp h
    refine ev_call rfl cdE_110 rfl rfl rfl (e_Mo_part (80 : Int32) (3 : Int32)  g9 hq10) ?_
    refine ev_rn (n := 1) (i2 := 40) (L2 := [some (.ref 157), some (.int p0)]) (st2 := [.long (-q10), .ref 157]) (g2 := g9) cdE_137 rfl ?_
    refine bd_elim h (fun g11 hg11 h => ?_)
    refine ev_pf (g2 := g11) rfl (rfl : S0[157]? = some _) (by decide) (by rw [hg11] <;> rfl) ?_
    cases h
    exact ev_ret rfl rfl
  exact ev_wk (L := [some (.ref 157), some (.int p0), some (.int (0 : Int32))]) (lp_ind (P := (fun (s : (Int32 × M2)) => Ev Lx 137 cd_137 5 [some (.ref 157), some (.int p0), some (.int s.1)] [] s.2 (none, b))) (fun s s2 hs hP => tb_Mo_laysPower_5 p0  s.1 s.2 (b := .inl s2) hs hP) (fun s hs => tb_Mo_laysPower_5 p0  s.1 s.2 (b := .inr e5) hs hX12) _ _ he5) ⟨rfl, ⟨rfl, ⟨rfl, trivial⟩⟩⟩
def f_Mo_toldPower (p0 : Int64) (p1 : Int64) (p2 : Int64) (p3 : Int32) (g : M2) : Option (Int64) := ((f_Mo_common p2 p0 g).bind fun q1 => ((f_Mo_common q1 p1 g).bind fun q2 => (if p3 = 0 then (if q2 = 0 then none else some (p0 / q2)) else (if p3 = (1 : Int32) then (if q2 = 0 then none else some (p1 / q2)) else (if q2 = 0 then none else some (p2 / q2))))))
theorem e_Mo_toldPower {Lx : Nat} (p0 : Int64) (p1 : Int64) (p2 : Int64) (p3 : Int32)  (g : M2) {b : Int64} (h : f_Mo_toldPower p0 p1 p2 p3 g = some b) : Ev Lx 138 cd_138 0 [some (.ref 157), some (.long p0), none, some (.long p1), none, some (.long p2), none, some (.int p3)] [] g (some (.long b), g) := by
  unfold f_Mo_toldPower at h
  refine ev_rn (n := 2) (i2 := 2) (L2 := [some (.ref 157), some (.long p0), none, some (.long p1), none, some (.long p2), none, some (.int p3)]) (st2 := [.long p0, .long p2]) (g2 := g) cdE_138 rfl ?_
  obtain ⟨q1, hq1, h⟩ := Option.bind_eq_some_iff.mp h
  refine ev_call rfl cdE_130 rfl rfl rfl (e_Mo_common p2 p0  g hq1) ?_
  refine ev_rn (n := 1) (i2 := 4) (L2 := [some (.ref 157), some (.long p0), none, some (.long p1), none, some (.long p2), none, some (.int p3)]) (st2 := [.long p1, .long q1]) (g2 := g) cdE_138 rfl ?_
  obtain ⟨q2, hq2, h⟩ := Option.bind_eq_some_iff.mp h
  refine ev_call rfl cdE_130 rfl rfl rfl (e_Mo_common q1 p1  g hq2) ?_
  refine ev_rn (n := 1) (i2 := 6) (L2 := [some (.ref 157), some (.long p0), none, some (.long p1), none, some (.long p2), none, some (.int p3), some (.long q2), none]) (st2 := []) (g2 := g) cdE_138 rfl ?_
  refine ev_rn (n := 1) (i2 := 7) (L2 := [some (.ref 157), some (.long p0), none, some (.long p1), none, some (.long p2), none, some (.int p3), some (.long q2), none]) (st2 := [.int p3]) (g2 := g) cdE_138 rfl ?_
  by_cases hc3 : p3 = 0
  · rw [if_pos hc3] at h
    refine ev_zff rfl (cn_f (fun q => q hc3)) ?_
    refine ev_rn (n := 2) (i2 := 10) (L2 := [some (.ref 157), some (.long p0), none, some (.long p1), none, some (.long p2), none, some (.int p3), some (.long q2), none]) (st2 := [.long q2, .long p0]) (g2 := g) cdE_138 rfl ?_
    by_cases hd7 : q2 = 0
    · rw [if_pos hd7] at h
      cases h
    · rw [if_neg hd7] at h
      refine ev_ldiv rfl hd7 ?_
      refine ev_rn (n := 1) (i2 := 22) (L2 := [some (.ref 157), some (.long p0), none, some (.long p1), none, some (.long p2), none, some (.int p3), some (.long q2), none]) (st2 := [.long (p0 / q2)]) (g2 := g) cdE_138 rfl ?_
      cases h
      exact ev_ret rfl rfl
  · rw [if_neg hc3] at h
    refine ev_zft cdE_138 rfl (cn_t hc3) ?_
    refine ev_rn (n := 2) (i2 := 14) (L2 := [some (.ref 157), some (.long p0), none, some (.long p1), none, some (.long p2), none, some (.int p3), some (.long q2), none]) (st2 := [.int (1 : Int32), .int p3]) (g2 := g) cdE_138 rfl ?_
    by_cases hc4 : p3 = (1 : Int32)
    · rw [if_pos hc4] at h
      refine ev_iff rfl (cn_f (fun q => q hc4)) ?_
      refine ev_rn (n := 2) (i2 := 17) (L2 := [some (.ref 157), some (.long p0), none, some (.long p1), none, some (.long p2), none, some (.int p3), some (.long q2), none]) (st2 := [.long q2, .long p1]) (g2 := g) cdE_138 rfl ?_
      by_cases hd6 : q2 = 0
      · rw [if_pos hd6] at h
        cases h
      · rw [if_neg hd6] at h
        refine ev_ldiv rfl hd6 ?_
        refine ev_rn (n := 1) (i2 := 22) (L2 := [some (.ref 157), some (.long p0), none, some (.long p1), none, some (.long p2), none, some (.int p3), some (.long q2), none]) (st2 := [.long (p1 / q2)]) (g2 := g) cdE_138 rfl ?_
        cases h
        exact ev_ret rfl rfl
    · rw [if_neg hc4] at h
      refine ev_ift cdE_138 rfl (cn_t hc4) ?_
      refine ev_rn (n := 2) (i2 := 21) (L2 := [some (.ref 157), some (.long p0), none, some (.long p1), none, some (.long p2), none, some (.int p3), some (.long q2), none]) (st2 := [.long q2, .long p2]) (g2 := g) cdE_138 rfl ?_
      by_cases hd5 : q2 = 0
      · rw [if_pos hd5] at h
        cases h
      · rw [if_neg hd5] at h
        refine ev_ldiv rfl hd5 ?_
        cases h
        exact ev_ret rfl rfl
def f_Mo_power (p0 : Int32) (p1 : Int32) (g : M2) : Option (Int64 × M2) := (if (f_Mo_isDirection p0 g) = 0 then some ((-9223372036854775808 : Int64), g) else (if (f_Mo_in p1.toInt64 (0 : Int64) (2 : Int64) g) = 0 then some ((-9223372036854775808 : Int64), g) else ((f_Mo_canNow g).bind fun q3 => (if q3.1 = 0 then some ((-9223372036854775808 : Int64), q3.2) else ((f_Mo_laysPower ((67 : Int32) + p0) q3.2).bind fun q5 => ((f_Mo_toldPower (q5.2 157 3) (q5.2 157 4) ((q5.2 157 16) * (q5.2 157 16)) p1 q5).bind fun q6 => some (q6, q5)))))))
theorem e_Mo_power {Lx : Nat} (p0 : Int32) (p1 : Int32)  (g : M2) {b : (Int64 × M2)} (h : f_Mo_power p0 p1 g = some b) : Ev Lx 139 cd_139 0 [some (.ref 157), some (.int p0), some (.int p1)] [] g (some (.long b.1), b.2) := by
  unfold f_Mo_power at h
  refine ev_rn (n := 1) (i2 := 1) (L2 := [some (.ref 157), some (.int p0), some (.int p1)]) (st2 := [.int p0]) (g2 := g) cdE_139 rfl ?_
  refine ev_call rfl cdE_73 rfl rfl rfl (e_Mo_isDirection p0  g rfl) ?_
  by_cases hc1 : (f_Mo_isDirection p0 g) = 0
  · rw [if_pos hc1] at h
    refine ev_zft cdE_139 rfl (cn_t hc1) ?_
    refine ev_rn (n := 1) (i2 := 13) (L2 := [some (.ref 157), some (.int p0), some (.int p1)]) (st2 := [.long (-9223372036854775808 : Int64)]) (g2 := g) cdE_139 rfl ?_
    cases h
    exact ev_ret rfl rfl
  · rw [if_neg hc1] at h
    refine ev_zff rfl (cn_f hc1) ?_
    refine ev_rn (n := 4) (i2 := 7) (L2 := [some (.ref 157), some (.int p0), some (.int p1)]) (st2 := [.long (2 : Int64), .long (0 : Int64), .long p1.toInt64]) (g2 := g) cdE_139 rfl ?_
    refine ev_call rfl cdE_16 rfl rfl rfl (e_Mo_in p1.toInt64 (0 : Int64) (2 : Int64)  g rfl) ?_
    by_cases hc2 : (f_Mo_in p1.toInt64 (0 : Int64) (2 : Int64) g) = 0
    · rw [if_pos hc2] at h
      refine ev_zft cdE_139 rfl (cn_t hc2) ?_
      refine ev_rn (n := 1) (i2 := 13) (L2 := [some (.ref 157), some (.int p0), some (.int p1)]) (st2 := [.long (-9223372036854775808 : Int64)]) (g2 := g) cdE_139 rfl ?_
      cases h
      exact ev_ret rfl rfl
    · rw [if_neg hc2] at h
      refine ev_zff rfl (cn_f hc2) ?_
      refine ev_rn (n := 1) (i2 := 10) (L2 := [some (.ref 157), some (.int p0), some (.int p1)]) (st2 := [.ref 157]) (g2 := g) cdE_139 rfl ?_
      obtain ⟨q3, hq3, h⟩ := Option.bind_eq_some_iff.mp h
      refine ev_call rfl cdE_118 rfl rfl rfl (e_Mo_canNow   g hq3) ?_
      by_cases hc4 : q3.1 = 0
      · rw [if_pos hc4] at h
        refine ev_zff rfl (cn_f (fun q => q hc4)) ?_
        refine ev_rn (n := 1) (i2 := 13) (L2 := [some (.ref 157), some (.int p0), some (.int p1)]) (st2 := [.long (-9223372036854775808 : Int64)]) (g2 := q3.2) cdE_139 rfl ?_
        cases h
        exact ev_ret rfl rfl
      · rw [if_neg hc4] at h
        refine ev_zft cdE_139 rfl (cn_t hc4) ?_
        refine ev_rn (n := 4) (i2 := 18) (L2 := [some (.ref 157), some (.int p0), some (.int p1)]) (st2 := [.int ((67 : Int32) + p0), .ref 157]) (g2 := q3.2) cdE_139 rfl ?_
        obtain ⟨q5, hq5, h⟩ := Option.bind_eq_some_iff.mp h
        refine ev_call rfl cdE_137 rfl rfl rfl (e_Mo_laysPower ((67 : Int32) + p0)  q3.2 hq5) ?_
        refine ev_rn (n := 11) (i2 := 30) (L2 := [some (.ref 157), some (.int p0), some (.int p1)]) (st2 := [.int p1, .long ((q5.2 157 16) * (q5.2 157 16)), .long (q5.2 157 4), .long (q5.2 157 3), .ref 157]) (g2 := q5) cdE_139 rfl ?_
        obtain ⟨q6, hq6, h⟩ := Option.bind_eq_some_iff.mp h
        refine ev_call rfl cdE_138 rfl rfl rfl (e_Mo_toldPower (q5.2 157 3) (q5.2 157 4) ((q5.2 157 16) * (q5.2 157 16)) p1  q5 hq6) ?_
        cases h
        exact ev_ret rfl rfl
def f_So_totalX (a0 : Nat) (g : M2) : Option (Int64) := some (f_Nu_realX ((a0 + 37) + 1 + 0) g)
theorem e_So_totalX {Lx : Nat} (a0 : Nat) (ha0 : IsSol a0) (g : M2) {b : Int64} (h : f_So_totalX a0 g = some b) : Ev Lx 140 cd_140 0 [some (.ref a0)] [] g (some (.long b), g) := by
  unfold f_So_totalX at h
  refine ev_rn (n := 1) (i2 := 1) (L2 := [some (.ref a0)]) (st2 := [.ref a0]) (g2 := g) cdE_140 rfl ?_
  refine ev_gf (v := .ref (a0 + 37)) rfl (so_at ha0) (by decide) rfl ?_
  refine ev_rn (n := 1) (i2 := 3) (L2 := [some (.ref a0)]) (st2 := [.int (0 : Int32), .ref (a0 + 37)]) (g2 := g) cdE_140 rfl ?_
  refine ev_aaload (v := .ref ((a0 + 37) + 1 + 0)) rfl (kd_of (na_at (so_37 ha0))) (by decide) ⟨by decide, by decide⟩ (na_rf (w := (a0 + 37)) (by decide)) ?_
  refine ev_call rfl cdE_84 (cokV rfl rfl (na_el (so_37 ha0) (j := 0) (by decide)) rfl) rfl rfl (e_Nu_realX ((a0 + 37) + 1 + 0) (na_el (so_37 ha0) (j := 0) (by decide)) g rfl) ?_
  cases h
  exact ev_ret rfl rfl
def f_So_totalY (a0 : Nat) (g : M2) : Option (Int64) := some (f_Nu_realY ((a0 + 37) + 1 + 0) g)
theorem e_So_totalY {Lx : Nat} (a0 : Nat) (ha0 : IsSol a0) (g : M2) {b : Int64} (h : f_So_totalY a0 g = some b) : Ev Lx 141 cd_141 0 [some (.ref a0)] [] g (some (.long b), g) := by
  unfold f_So_totalY at h
  refine ev_rn (n := 1) (i2 := 1) (L2 := [some (.ref a0)]) (st2 := [.ref a0]) (g2 := g) cdE_141 rfl ?_
  refine ev_gf (v := .ref (a0 + 37)) rfl (so_at ha0) (by decide) rfl ?_
  refine ev_rn (n := 1) (i2 := 3) (L2 := [some (.ref a0)]) (st2 := [.int (0 : Int32), .ref (a0 + 37)]) (g2 := g) cdE_141 rfl ?_
  refine ev_aaload (v := .ref ((a0 + 37) + 1 + 0)) rfl (kd_of (na_at (so_37 ha0))) (by decide) ⟨by decide, by decide⟩ (na_rf (w := (a0 + 37)) (by decide)) ?_
  refine ev_call rfl cdE_85 (cokV rfl rfl (na_el (so_37 ha0) (j := 0) (by decide)) rfl) rfl rfl (e_Nu_realY ((a0 + 37) + 1 + 0) (na_el (so_37 ha0) (j := 0) (by decide)) g rfl) ?_
  cases h
  exact ev_ret rfl rfl
def f_Da_total (p0 : Int32) (g : M2) : Option (Int64 × M2) := ((f_Da_refresh g).bind fun q1 => (if (q1.1 6 13) = 0 then some ((-9223372036854775808 : Int64), q1) else ((f_So_totalX 6 q1).bind fun q3 => ((f_So_totalY 6 q1).bind fun q4 => ((f_Da_realPart q3 q4 (q1.2 6 16) p0 q1).bind fun q5 => some (q5, q1))))))
theorem e_Da_total {Lx : Nat} (p0 : Int32)  (g : M2) {b : (Int64 × M2)} (h : f_Da_total p0 g = some b) : Ev Lx 142 cd_142 0 [some (.ref 0), some (.int p0)] [] g (some (.long b.1), b.2) := by
  unfold f_Da_total at h
  refine ev_rn (n := 1) (i2 := 1) (L2 := [some (.ref 0), some (.int p0)]) (st2 := [.ref 0]) (g2 := g) cdE_142 rfl ?_
  obtain ⟨q1, hq1, h⟩ := Option.bind_eq_some_iff.mp h
  refine ev_call rfl cdE_100 rfl rfl rfl (e_Da_refresh   g hq1) ?_
  refine ev_rn (n := 3) (i2 := 5) (L2 := [some (.ref 0), some (.int p0)]) (st2 := [.int (q1.1 6 13)]) (g2 := q1) cdE_142 rfl ?_
  by_cases hc2 : (q1.1 6 13) = 0
  · rw [if_pos hc2] at h
    refine ev_zff rfl (cn_f (fun q => q hc2)) ?_
    refine ev_rn (n := 1) (i2 := 7) (L2 := [some (.ref 0), some (.int p0)]) (st2 := [.long (-9223372036854775808 : Int64)]) (g2 := q1) cdE_142 rfl ?_
    cases h
    exact ev_ret rfl rfl
  · rw [if_neg hc2] at h
    refine ev_zft cdE_142 rfl (cn_t hc2) ?_
    refine ev_rn (n := 2) (i2 := 10) (L2 := [some (.ref 0), some (.int p0)]) (st2 := [.ref 6]) (g2 := q1) cdE_142 rfl ?_
    obtain ⟨q3, hq3, h⟩ := Option.bind_eq_some_iff.mp h
    refine ev_call rfl cdE_140 rfl rfl rfl (e_So_totalX 6 (by decide) q1 hq3) ?_
    refine ev_rn (n := 2) (i2 := 13) (L2 := [some (.ref 0), some (.int p0)]) (st2 := [.ref 6, .long q3]) (g2 := q1) cdE_142 rfl ?_
    obtain ⟨q4, hq4, h⟩ := Option.bind_eq_some_iff.mp h
    refine ev_call rfl cdE_141 rfl rfl rfl (e_So_totalY 6 (by decide) q1 hq4) ?_
    refine ev_rn (n := 4) (i2 := 18) (L2 := [some (.ref 0), some (.int p0)]) (st2 := [.int p0, .long (q1.2 6 16), .long q4, .long q3]) (g2 := q1) cdE_142 rfl ?_
    obtain ⟨q5, hq5, h⟩ := Option.bind_eq_some_iff.mp h
    refine ev_call rfl cdE_135 rfl rfl rfl (e_Da_realPart q3 q4 (q1.2 6 16) p0  q1 hq5) ?_
    cases h
    exact ev_ret rfl rfl
def f_Mo_total (p0 : Int32) (g : M2) : Option (Int64 × M2) := (if (f_Mo_in p0.toInt64 (0 : Int64) (2 : Int64) g) = 0 then some ((-9223372036854775808 : Int64), g) else ((f_Mo_canNow g).bind fun q2 => (if q2.1 = 0 then some ((-9223372036854775808 : Int64), q2.2) else ((f_Mo_toldPower (q2.2.2 157 17) (q2.2.2 157 18) (q2.2.2 157 16) p0 q2.2).bind fun q4 => some (q4, q2.2)))))
theorem e_Mo_total {Lx : Nat} (p0 : Int32)  (g : M2) {b : (Int64 × M2)} (h : f_Mo_total p0 g = some b) : Ev Lx 143 cd_143 0 [some (.ref 157), some (.int p0)] [] g (some (.long b.1), b.2) := by
  unfold f_Mo_total at h
  refine ev_rn (n := 4) (i2 := 4) (L2 := [some (.ref 157), some (.int p0)]) (st2 := [.long (2 : Int64), .long (0 : Int64), .long p0.toInt64]) (g2 := g) cdE_143 rfl ?_
  refine ev_call rfl cdE_16 rfl rfl rfl (e_Mo_in p0.toInt64 (0 : Int64) (2 : Int64)  g rfl) ?_
  by_cases hc1 : (f_Mo_in p0.toInt64 (0 : Int64) (2 : Int64) g) = 0
  · rw [if_pos hc1] at h
    refine ev_zft cdE_143 rfl (cn_t hc1) ?_
    refine ev_rn (n := 1) (i2 := 10) (L2 := [some (.ref 157), some (.int p0)]) (st2 := [.long (-9223372036854775808 : Int64)]) (g2 := g) cdE_143 rfl ?_
    cases h
    exact ev_ret rfl rfl
  · rw [if_neg hc1] at h
    refine ev_zff rfl (cn_f hc1) ?_
    refine ev_rn (n := 1) (i2 := 7) (L2 := [some (.ref 157), some (.int p0)]) (st2 := [.ref 157]) (g2 := g) cdE_143 rfl ?_
    obtain ⟨q2, hq2, h⟩ := Option.bind_eq_some_iff.mp h
    refine ev_call rfl cdE_118 rfl rfl rfl (e_Mo_canNow   g hq2) ?_
    by_cases hc3 : q2.1 = 0
    · rw [if_pos hc3] at h
      refine ev_zff rfl (cn_f (fun q => q hc3)) ?_
      refine ev_rn (n := 1) (i2 := 10) (L2 := [some (.ref 157), some (.int p0)]) (st2 := [.long (-9223372036854775808 : Int64)]) (g2 := q2.2) cdE_143 rfl ?_
      cases h
      exact ev_ret rfl rfl
    · rw [if_neg hc3] at h
      refine ev_zft cdE_143 rfl (cn_t hc3) ?_
      refine ev_rn (n := 8) (i2 := 19) (L2 := [some (.ref 157), some (.int p0)]) (st2 := [.int p0, .long (q2.2.2 157 16), .long (q2.2.2 157 18), .long (q2.2.2 157 17), .ref 157]) (g2 := q2.2) cdE_143 rfl ?_
      obtain ⟨q4, hq4, h⟩ := Option.bind_eq_some_iff.mp h
      refine ev_call rfl cdE_138 rfl rfl rfl (e_Mo_toldPower (q2.2.2 157 17) (q2.2.2 157 18) (q2.2.2 157 16) p0  q2.2 hq4) ?_
      cases h
      exact ev_ret rfl rfl
def b_Da_signOf_46  (v4 : Int32) (v5 : Int64) (v7 : Int64) (v9 : Int32) (g : M2) : Option ((Int32 × Int64 × Int64 × Int32) ⊕ (Int32 ⊕ Int32)) := (if (200 : Int32) ≤ v9 then some (.inr (.inl v4)) else (if v5 < ((2 : Int64) * v7) then (if v7 < v5 then some (.inl ((-v4), (((2 : Int64) * v7) - (v5 - v7)), (v5 - v7), (v9 + (1 : Int32)))) else some (.inr (.inr (-v4)))) else some (.inr (.inr v4))))
theorem tb_Da_signOf_46 {Lx : Nat}   (v4 : Int32) (v5 : Int64) (v7 : Int64) (v9 : Int32) (g : M2) {b : (Int32 × Int64 × Int64 × Int32) ⊕ (Int32 ⊕ Int32)} {o : Option Value × M2} (h : b_Da_signOf_46 v4 v5 v7 v9 g = some b) (hb : Sum.elim (fun s => Ev Lx 144 cd_144 46 [none, none, none, none, some (.int s.1), some (.long s.2.1), none, some (.long s.2.2.1), none, some (.int s.2.2.2)] [] g o) (Sum.elim (fun e => Ev Lx 144 cd_144 81 [none, none, none, none, some (.int e)] [] g o) (fun r => o = (some (.int r), g))) b) : Ev Lx 144 cd_144 46 [none, none, none, none, some (.int v4), some (.long v5), none, some (.long v7), none, some (.int v9)] [] g o := by
  unfold b_Da_signOf_46 at h
  refine ev_rn (n := 2) (i2 := 48) (L2 := [none, none, none, none, some (.int v4), some (.long v5), none, some (.long v7), none, some (.int v9)]) (st2 := [.int (200 : Int32), .int v9]) (g2 := g) cdE_144 rfl ?_
  by_cases hc5 : (200 : Int32) ≤ v9
  · rw [if_pos hc5] at h
    refine ev_ift cdE_144 rfl (cn_t hc5) ?_
    cases h
    exact ev_wk (L := [none, none, none, none, some (.int v4)]) hb ⟨rfl, trivial⟩
  · rw [if_neg hc5] at h
    refine ev_iff rfl (cn_f hc5) ?_
    refine ev_rn (n := 5) (i2 := 54) (L2 := [none, none, none, none, some (.int v4), some (.long v5), none, some (.long v7), none, some (.int v9)]) (st2 := [.int (lg_cmp v5 ((2 : Int64) * v7))]) (g2 := g) cdE_144 rfl ?_
    by_cases hc6 : v5 < ((2 : Int64) * v7)
    · rw [if_pos hc6] at h
      refine ev_zft cdE_144 rfl (lc_lt_t hc6) ?_
      refine ev_rn (n := 3) (i2 := 60) (L2 := [none, none, none, none, some (.int v4), some (.long v5), none, some (.long v7), none, some (.int v9)]) (st2 := [.int (lg_cmp v5 v7)]) (g2 := g) cdE_144 rfl ?_
      by_cases hc7 : v7 < v5
      · rw [if_pos hc7] at h
        refine ev_zft cdE_144 rfl (lc_gt_t hc7) ?_
        refine ev_rn (n := 4) (i2 := 68) (L2 := [none, none, none, none, some (.int v4), some (.long v5), none, some (.long v7), none, some (.int v9), some (.long (v5 - v7)), none]) (st2 := []) (g2 := g) cdE_144 rfl ?_
        refine ev_rn (n := 6) (i2 := 74) (L2 := [none, none, none, none, some (.int v4), some (.long (((2 : Int64) * v7) - (v5 - v7))), none, some (.long v7), none, some (.int v9), some (.long (v5 - v7)), none]) (st2 := []) (g2 := g) cdE_144 rfl ?_
        refine ev_rn (n := 2) (i2 := 76) (L2 := [none, none, none, none, some (.int v4), some (.long (((2 : Int64) * v7) - (v5 - v7))), none, some (.long (v5 - v7)), none, some (.int v9), some (.long (v5 - v7)), none]) (st2 := []) (g2 := g) cdE_144 rfl ?_
        refine ev_rn (n := 4) (i2 := 80) (L2 := [none, none, none, none, some (.int (-v4)), some (.long (((2 : Int64) * v7) - (v5 - v7))), none, some (.long (v5 - v7)), none, some (.int (v9 + (1 : Int32))), some (.long (v5 - v7)), none]) (st2 := []) (g2 := g) cdE_144 rfl ?_
        refine ev_rn (n := 1) (i2 := 46) (L2 := [none, none, none, none, some (.int (-v4)), some (.long (((2 : Int64) * v7) - (v5 - v7))), none, some (.long (v5 - v7)), none, some (.int (v9 + (1 : Int32))), some (.long (v5 - v7)), none]) (st2 := []) (g2 := g) cdE_144 rfl ?_
        cases h
        exact ev_wk (L := [none, none, none, none, some (.int (-v4)), some (.long (((2 : Int64) * v7) - (v5 - v7))), none, some (.long (v5 - v7)), none, some (.int (v9 + (1 : Int32)))]) hb ⟨rfl, ⟨rfl, ⟨rfl, ⟨rfl, trivial⟩⟩⟩⟩
      · rw [if_neg hc7] at h
        refine ev_zff rfl (lc_gt_f hc7) ?_
        refine ev_rn (n := 2) (i2 := 63) (L2 := [none, none, none, none, some (.int v4), some (.long v5), none, some (.long v7), none, some (.int v9)]) (st2 := [.int (-v4)]) (g2 := g) cdE_144 rfl ?_
        cases h
        cases hb
        exact ev_ret rfl rfl
    · rw [if_neg hc6] at h
      refine ev_zff rfl (lc_lt_f hc6) ?_
      refine ev_rn (n := 1) (i2 := 56) (L2 := [none, none, none, none, some (.int v4), some (.long v5), none, some (.long v7), none, some (.int v9)]) (st2 := [.int v4]) (g2 := g) cdE_144 rfl ?_
      cases h
      cases hb
      exact ev_ret rfl rfl
def j_Da_signOf_38 (v0 : Int64) (v2 : Int64) (v4 : Int32) (g : M2) : Option (Int32) := ((lp (fun s => b_Da_signOf_46  s.1 s.2.1 s.2.2.1 s.2.2.2 g) 5000 (v4, (f_Ma_abs v0 g), (f_Ma_abs v2 g), (0 : Int32))).bind fun ue8 => Sum.elim (fun e8 => some e8) (fun re8 => some re8) ue8)
theorem tj_Da_signOf_38 {Lx : Nat}  (v0 : Int64) (v2 : Int64) (v4 : Int32)  (g : M2) {b : Int32} (h : j_Da_signOf_38 v0 v2 v4 g = some b) : Ev Lx 144 cd_144 38 [some (.long v0), none, some (.long v2), none, some (.int v4)] [] g (some (.int b), g) := by
  unfold j_Da_signOf_38 at h
  refine ev_rn (n := 1) (i2 := 39) (L2 := [some (.long v0), none, some (.long v2), none, some (.int v4)]) (st2 := [.long v0]) (g2 := g) cdE_144 rfl ?_
  refine ev_call rfl cdE_125 rfl rfl rfl (e_Ma_abs v0  g rfl) ?_
  refine ev_rn (n := 1) (i2 := 41) (L2 := [some (.long v0), none, some (.long v2), none, some (.int v4), some (.long (f_Ma_abs v0 g)), none]) (st2 := []) (g2 := g) cdE_144 rfl ?_
  refine ev_rn (n := 1) (i2 := 42) (L2 := [some (.long v0), none, some (.long v2), none, some (.int v4), some (.long (f_Ma_abs v0 g)), none]) (st2 := [.long v2]) (g2 := g) cdE_144 rfl ?_
  refine ev_call rfl cdE_125 rfl rfl rfl (e_Ma_abs v2  g rfl) ?_
  refine ev_rn (n := 1) (i2 := 44) (L2 := [some (.long v0), none, some (.long v2), none, some (.int v4), some (.long (f_Ma_abs v0 g)), none, some (.long (f_Ma_abs v2 g)), none]) (st2 := []) (g2 := g) cdE_144 rfl ?_
  refine ev_rn (n := 2) (i2 := 46) (L2 := [some (.long v0), none, some (.long v2), none, some (.int v4), some (.long (f_Ma_abs v0 g)), none, some (.long (f_Ma_abs v2 g)), none, some (.int (0 : Int32))]) (st2 := []) (g2 := g) cdE_144 rfl ?_
  obtain ⟨ue8, he8, h⟩ := Option.bind_eq_some_iff.mp h
  cases ue8 with
  | inl e8 =>
    replace h := h
    have hX9 : Ev Lx 144 cd_144 81 [none, none, none, none, some (.int e8)] [] g (some (.int b), g) := by
      simp only [Sum.elim_inl] at h
      refine ev_rn (n := 1) (i2 := 82) (L2 := [none, none, none, none, some (.int e8)]) (st2 := [.int e8]) (g2 := g) cdE_144 rfl ?_
      cases h
      exact ev_ret rfl rfl
    exact ev_wk (L := [none, none, none, none, some (.int v4), some (.long (f_Ma_abs v0 g)), none, some (.long (f_Ma_abs v2 g)), none, some (.int (0 : Int32))]) (lp_ind (P := (fun (s : (Int32 × Int64 × Int64 × Int32)) => Ev Lx 144 cd_144 46 [none, none, none, none, some (.int s.1), some (.long s.2.1), none, some (.long s.2.2.1), none, some (.int s.2.2.2)] [] g (some (.int b), g))) (fun s s2 hs hP => tb_Da_signOf_46   s.1 s.2.1 s.2.2.1 s.2.2.2 g (b := .inl s2) hs hP) (fun s hs => tb_Da_signOf_46   s.1 s.2.1 s.2.2.1 s.2.2.2 g (b := .inr (.inl e8)) hs hX9) _ _ he8) ⟨rfl, ⟨rfl, ⟨rfl, ⟨rfl, trivial⟩⟩⟩⟩
  | inr re8 =>
    simp only [Sum.elim_inr] at h
    cases h
    exact ev_wk (L := [none, none, none, none, some (.int v4), some (.long (f_Ma_abs v0 g)), none, some (.long (f_Ma_abs v2 g)), none, some (.int (0 : Int32))]) (lp_ind (P := (fun (s : (Int32 × Int64 × Int64 × Int32)) => Ev Lx 144 cd_144 46 [none, none, none, none, some (.int s.1), some (.long s.2.1), none, some (.long s.2.2.1), none, some (.int s.2.2.2)] [] g (some (.int b), g))) (fun s s2 hs hP => tb_Da_signOf_46   s.1 s.2.1 s.2.2.1 s.2.2.2 g (b := .inl s2) hs hP) (fun s hs => tb_Da_signOf_46   s.1 s.2.1 s.2.2.1 s.2.2.2 g (b := .inr (.inr b)) hs rfl) _ _ he8) ⟨rfl, ⟨rfl, ⟨rfl, ⟨rfl, trivial⟩⟩⟩⟩
def j_Da_signOf_30 (v0 : Int64) (v2 : Int64) (g : M2) : Option (Int32) := (if v0 ≤ (0 : Int64) then (j_Da_signOf_38 v0 v2 (-1 : Int32) g) else (j_Da_signOf_38 v0 v2 (1 : Int32) g))
theorem tj_Da_signOf_30 {Lx : Nat}  (v0 : Int64) (v2 : Int64)  (g : M2) {b : Int32} (h : j_Da_signOf_30 v0 v2 g = some b) : Ev Lx 144 cd_144 30 [some (.long v0), none, some (.long v2)] [] g (some (.int b), g) := by
  unfold j_Da_signOf_30 at h
  refine ev_rn (n := 3) (i2 := 33) (L2 := [some (.long v0), none, some (.long v2)]) (st2 := [.int (lg_cmp v0 (0 : Int64))]) (g2 := g) cdE_144 rfl ?_
  by_cases hc4 : v0 ≤ (0 : Int64)
  · rw [if_pos hc4] at h
    refine ev_zft cdE_144 rfl (lc_le_t hc4) ?_
    refine ev_rn (n := 2) (i2 := 38) (L2 := [some (.long v0), none, some (.long v2), none, some (.int (-1 : Int32))]) (st2 := []) (g2 := g) cdE_144 rfl ?_
    exact ev_wk (L := [some (.long v0), none, some (.long v2), none, some (.int (-1 : Int32))]) (tj_Da_signOf_38  v0 v2 (-1 : Int32)  g h) ⟨rfl, ⟨rfl, ⟨rfl, trivial⟩⟩⟩
  · rw [if_neg hc4] at h
    refine ev_zff rfl (lc_le_f hc4) ?_
    refine ev_rn (n := 3) (i2 := 38) (L2 := [some (.long v0), none, some (.long v2), none, some (.int (1 : Int32))]) (st2 := []) (g2 := g) cdE_144 rfl ?_
    exact ev_wk (L := [some (.long v0), none, some (.long v2), none, some (.int (1 : Int32))]) (tj_Da_signOf_38  v0 v2 (1 : Int32)  g h) ⟨rfl, ⟨rfl, ⟨rfl, trivial⟩⟩⟩
def j_Da_signOf_20 (v0 : Int64) (v2 : Int64) (g : M2) : Option (Int32) := (if (0 : Int64) < v0 then (j_Da_signOf_30 v0 v2 g) else (if (0 : Int64) < v2 then (j_Da_signOf_30 v0 v2 g) else some (-1 : Int32)))
theorem tj_Da_signOf_20 {Lx : Nat}  (v0 : Int64) (v2 : Int64)  (g : M2) {b : Int32} (h : j_Da_signOf_20 v0 v2 g = some b) : Ev Lx 144 cd_144 20 [some (.long v0), none, some (.long v2)] [] g (some (.int b), g) := by
  unfold j_Da_signOf_20 at h
  refine ev_rn (n := 3) (i2 := 23) (L2 := [some (.long v0), none, some (.long v2)]) (st2 := [.int (lg_cmp v0 (0 : Int64))]) (g2 := g) cdE_144 rfl ?_
  by_cases hc3 : (0 : Int64) < v0
  · rw [if_pos hc3] at h
    refine ev_zft cdE_144 rfl (lc_gt_t hc3) ?_
    exact ev_wk (L := [some (.long v0), none, some (.long v2)]) (tj_Da_signOf_30  v0 v2  g h) ⟨rfl, ⟨rfl, trivial⟩⟩
  · rw [if_neg hc3] at h
    refine ev_zff rfl (lc_gt_f hc3) ?_
    refine ev_rn (n := 3) (i2 := 27) (L2 := [some (.long v0), none, some (.long v2)]) (st2 := [.int (lg_cmp v2 (0 : Int64))]) (g2 := g) cdE_144 rfl ?_
    by_cases hc10 : (0 : Int64) < v2
    · rw [if_pos hc10] at h
      refine ev_zft cdE_144 rfl (lc_gt_t hc10) ?_
      exact ev_wk (L := [some (.long v0), none, some (.long v2)]) (tj_Da_signOf_30  v0 v2  g h) ⟨rfl, ⟨rfl, trivial⟩⟩
    · rw [if_neg hc10] at h
      refine ev_zff rfl (lc_gt_f hc10) ?_
      refine ev_rn (n := 1) (i2 := 29) (L2 := [some (.long v0), none, some (.long v2)]) (st2 := [.int (-1 : Int32)]) (g2 := g) cdE_144 rfl ?_
      cases h
      exact ev_ret rfl rfl
def j_Da_signOf_10 (v0 : Int64) (v2 : Int64) (g : M2) : Option (Int32) := (if v0 < (0 : Int64) then (j_Da_signOf_20 v0 v2 g) else (if v2 < (0 : Int64) then (j_Da_signOf_20 v0 v2 g) else some (1 : Int32)))
theorem tj_Da_signOf_10 {Lx : Nat}  (v0 : Int64) (v2 : Int64)  (g : M2) {b : Int32} (h : j_Da_signOf_10 v0 v2 g = some b) : Ev Lx 144 cd_144 10 [some (.long v0), none, some (.long v2)] [] g (some (.int b), g) := by
  unfold j_Da_signOf_10 at h
  refine ev_rn (n := 3) (i2 := 13) (L2 := [some (.long v0), none, some (.long v2)]) (st2 := [.int (lg_cmp v0 (0 : Int64))]) (g2 := g) cdE_144 rfl ?_
  by_cases hc2 : v0 < (0 : Int64)
  · rw [if_pos hc2] at h
    refine ev_zft cdE_144 rfl (lc_lt_t hc2) ?_
    exact ev_wk (L := [some (.long v0), none, some (.long v2)]) (tj_Da_signOf_20  v0 v2  g h) ⟨rfl, ⟨rfl, trivial⟩⟩
  · rw [if_neg hc2] at h
    refine ev_zff rfl (lc_lt_f hc2) ?_
    refine ev_rn (n := 3) (i2 := 17) (L2 := [some (.long v0), none, some (.long v2)]) (st2 := [.int (lg_cmp v2 (0 : Int64))]) (g2 := g) cdE_144 rfl ?_
    by_cases hc11 : v2 < (0 : Int64)
    · rw [if_pos hc11] at h
      refine ev_zft cdE_144 rfl (lc_lt_t hc11) ?_
      exact ev_wk (L := [some (.long v0), none, some (.long v2)]) (tj_Da_signOf_20  v0 v2  g h) ⟨rfl, ⟨rfl, trivial⟩⟩
    · rw [if_neg hc11] at h
      refine ev_zff rfl (lc_lt_f hc11) ?_
      refine ev_rn (n := 1) (i2 := 19) (L2 := [some (.long v0), none, some (.long v2)]) (st2 := [.int (1 : Int32)]) (g2 := g) cdE_144 rfl ?_
      cases h
      exact ev_ret rfl rfl
def f_Da_signOf (p0 : Int64) (p1 : Int64) (g : M2) : Option (Int32) := (if p0 = (0 : Int64) then (if p1 = (0 : Int64) then some (0 : Int32) else (j_Da_signOf_10 p0 p1 g)) else (j_Da_signOf_10 p0 p1 g))
theorem e_Da_signOf {Lx : Nat} (p0 : Int64) (p1 : Int64)  (g : M2) {b : Int32} (h : f_Da_signOf p0 p1 g = some b) : Ev Lx 144 cd_144 0 [some (.long p0), none, some (.long p1), none] [] g (some (.int b), g) := by
  unfold f_Da_signOf at h
  refine ev_rn (n := 3) (i2 := 3) (L2 := [some (.long p0), none, some (.long p1), none]) (st2 := [.int (lg_cmp p0 (0 : Int64))]) (g2 := g) cdE_144 rfl ?_
  by_cases hc1 : p0 = (0 : Int64)
  · rw [if_pos hc1] at h
    refine ev_zff rfl (lc_ne_f hc1) ?_
    refine ev_rn (n := 3) (i2 := 7) (L2 := [some (.long p0), none, some (.long p1), none]) (st2 := [.int (lg_cmp p1 (0 : Int64))]) (g2 := g) cdE_144 rfl ?_
    by_cases hc12 : p1 = (0 : Int64)
    · rw [if_pos hc12] at h
      refine ev_zff rfl (lc_ne_f hc12) ?_
      refine ev_rn (n := 1) (i2 := 9) (L2 := [some (.long p0), none, some (.long p1), none]) (st2 := [.int (0 : Int32)]) (g2 := g) cdE_144 rfl ?_
      cases h
      exact ev_ret rfl rfl
    · rw [if_neg hc12] at h
      refine ev_zft cdE_144 rfl (lc_ne_t hc12) ?_
      exact ev_wk (L := [some (.long p0), none, some (.long p1)]) (tj_Da_signOf_10  p0 p1  g h) ⟨rfl, ⟨rfl, trivial⟩⟩
  · rw [if_neg hc1] at h
    refine ev_zft cdE_144 rfl (lc_ne_t hc1) ?_
    exact ev_wk (L := [some (.long p0), none, some (.long p1)]) (tj_Da_signOf_10  p0 p1  g h) ⟨rfl, ⟨rfl, trivial⟩⟩
def f_So_comparePowers (a0 : Nat) (p0 : Int32) (p1 : Int32) (g : M2) : Option (Int32) := (if inb p0 12 then (if inb p1 12 then (if inb p0 12 then (if inb p1 12 then ((f_Da_signOf ((g.2 (a0 + 62) p0.toNatClampNeg) - (g.2 (a0 + 62) p1.toNatClampNeg)) ((g.2 (a0 + 63) p0.toNatClampNeg) - (g.2 (a0 + 63) p1.toNatClampNeg)) g).bind fun q5 => some q5) else none) else none) else none) else none)
theorem e_So_comparePowers {Lx : Nat} (a0 : Nat) (p0 : Int32) (p1 : Int32) (ha0 : IsSol a0) (g : M2) {b : Int32} (h : f_So_comparePowers a0 p0 p1 g = some b) : Ev Lx 145 cd_145 0 [some (.ref a0), some (.int p0), some (.int p1)] [] g (some (.int b), g) := by
  unfold f_So_comparePowers at h
  refine ev_rn (n := 1) (i2 := 1) (L2 := [some (.ref a0), some (.int p0), some (.int p1)]) (st2 := [.ref a0]) (g2 := g) cdE_145 rfl ?_
  refine ev_gf (v := .ref (a0 + 62)) rfl (so_at ha0) (by decide) rfl ?_
  refine ev_rn (n := 1) (i2 := 3) (L2 := [some (.ref a0), some (.int p0), some (.int p1)]) (st2 := [.int p0, .ref (a0 + 62)]) (g2 := g) cdE_145 rfl ?_
  by_cases hi1 : inb p0 12
  · rw [if_pos hi1] at h
    refine ev_laload (v := .long (g.2 (a0 + 62) p0.toNatClampNeg)) rfl (kd_of (so_62 ha0)) (by decide) hi1 rfl ?_
    refine ev_rn (n := 1) (i2 := 5) (L2 := [some (.ref a0), some (.int p0), some (.int p1)]) (st2 := [.ref a0, .long (g.2 (a0 + 62) p0.toNatClampNeg)]) (g2 := g) cdE_145 rfl ?_
    refine ev_gf (v := .ref (a0 + 62)) rfl (so_at ha0) (by decide) rfl ?_
    refine ev_rn (n := 1) (i2 := 7) (L2 := [some (.ref a0), some (.int p0), some (.int p1)]) (st2 := [.int p1, .ref (a0 + 62), .long (g.2 (a0 + 62) p0.toNatClampNeg)]) (g2 := g) cdE_145 rfl ?_
    by_cases hi2 : inb p1 12
    · rw [if_pos hi2] at h
      refine ev_laload (v := .long (g.2 (a0 + 62) p1.toNatClampNeg)) rfl (kd_of (so_62 ha0)) (by decide) hi2 rfl ?_
      refine ev_rn (n := 2) (i2 := 10) (L2 := [some (.ref a0), some (.int p0), some (.int p1)]) (st2 := [.ref a0, .long ((g.2 (a0 + 62) p0.toNatClampNeg) - (g.2 (a0 + 62) p1.toNatClampNeg))]) (g2 := g) cdE_145 rfl ?_
      refine ev_gf (v := .ref (a0 + 63)) rfl (so_at ha0) (by decide) rfl ?_
      refine ev_rn (n := 1) (i2 := 12) (L2 := [some (.ref a0), some (.int p0), some (.int p1)]) (st2 := [.int p0, .ref (a0 + 63), .long ((g.2 (a0 + 62) p0.toNatClampNeg) - (g.2 (a0 + 62) p1.toNatClampNeg))]) (g2 := g) cdE_145 rfl ?_
      by_cases hi3 : inb p0 12
      · rw [if_pos hi3] at h
        refine ev_laload (v := .long (g.2 (a0 + 63) p0.toNatClampNeg)) rfl (kd_of (so_63 ha0)) (by decide) hi3 rfl ?_
        refine ev_rn (n := 1) (i2 := 14) (L2 := [some (.ref a0), some (.int p0), some (.int p1)]) (st2 := [.ref a0, .long (g.2 (a0 + 63) p0.toNatClampNeg), .long ((g.2 (a0 + 62) p0.toNatClampNeg) - (g.2 (a0 + 62) p1.toNatClampNeg))]) (g2 := g) cdE_145 rfl ?_
        refine ev_gf (v := .ref (a0 + 63)) rfl (so_at ha0) (by decide) rfl ?_
        refine ev_rn (n := 1) (i2 := 16) (L2 := [some (.ref a0), some (.int p0), some (.int p1)]) (st2 := [.int p1, .ref (a0 + 63), .long (g.2 (a0 + 63) p0.toNatClampNeg), .long ((g.2 (a0 + 62) p0.toNatClampNeg) - (g.2 (a0 + 62) p1.toNatClampNeg))]) (g2 := g) cdE_145 rfl ?_
        by_cases hi4 : inb p1 12
        · rw [if_pos hi4] at h
          refine ev_laload (v := .long (g.2 (a0 + 63) p1.toNatClampNeg)) rfl (kd_of (so_63 ha0)) (by decide) hi4 rfl ?_
          refine ev_rn (n := 1) (i2 := 18) (L2 := [some (.ref a0), some (.int p0), some (.int p1)]) (st2 := [.long ((g.2 (a0 + 63) p0.toNatClampNeg) - (g.2 (a0 + 63) p1.toNatClampNeg)), .long ((g.2 (a0 + 62) p0.toNatClampNeg) - (g.2 (a0 + 62) p1.toNatClampNeg))]) (g2 := g) cdE_145 rfl ?_
          obtain ⟨q5, hq5, h⟩ := Option.bind_eq_some_iff.mp h
          refine ev_call rfl cdE_144 rfl rfl rfl (e_Da_signOf ((g.2 (a0 + 62) p0.toNatClampNeg) - (g.2 (a0 + 62) p1.toNatClampNeg)) ((g.2 (a0 + 63) p0.toNatClampNeg) - (g.2 (a0 + 63) p1.toNatClampNeg))  g hq5) ?_
          cases h
          exact ev_ret rfl rfl
        · rw [if_neg hi4] at h
          cases h
      · rw [if_neg hi3] at h
        cases h
    · rw [if_neg hi2] at h
      cases h
  · rw [if_neg hi1] at h
    cases h
def f_Da_louder (p0 : Int32) (p1 : Int32) (g : M2) : Option (Int32 × M2) := ((f_Da_refresh g).bind fun q1 => (if (q1.1 6 13) = 0 then some ((-2 : Int32), q1) else (if (f_Da_isDirection p0 q1) = 0 then some ((-2 : Int32), q1) else (if (f_Da_isDirection p1 q1) = 0 then some ((-2 : Int32), q1) else ((f_So_comparePowers 6 p0 p1 q1).bind fun q5 => some (q5, q1))))))
theorem e_Da_louder {Lx : Nat} (p0 : Int32) (p1 : Int32)  (g : M2) {b : (Int32 × M2)} (h : f_Da_louder p0 p1 g = some b) : Ev Lx 146 cd_146 0 [some (.ref 0), some (.int p0), some (.int p1)] [] g (some (.int b.1), b.2) := by
  unfold f_Da_louder at h
  refine ev_rn (n := 1) (i2 := 1) (L2 := [some (.ref 0), some (.int p0), some (.int p1)]) (st2 := [.ref 0]) (g2 := g) cdE_146 rfl ?_
  obtain ⟨q1, hq1, h⟩ := Option.bind_eq_some_iff.mp h
  refine ev_call rfl cdE_100 rfl rfl rfl (e_Da_refresh   g hq1) ?_
  refine ev_rn (n := 3) (i2 := 5) (L2 := [some (.ref 0), some (.int p0), some (.int p1)]) (st2 := [.int (q1.1 6 13)]) (g2 := q1) cdE_146 rfl ?_
  by_cases hc2 : (q1.1 6 13) = 0
  · rw [if_pos hc2] at h
    refine ev_zft cdE_146 rfl (cn_t hc2) ?_
    refine ev_rn (n := 1) (i2 := 13) (L2 := [some (.ref 0), some (.int p0), some (.int p1)]) (st2 := [.int (-2 : Int32)]) (g2 := q1) cdE_146 rfl ?_
    cases h
    exact ev_ret rfl rfl
  · rw [if_neg hc2] at h
    refine ev_zff rfl (cn_f hc2) ?_
    refine ev_rn (n := 1) (i2 := 7) (L2 := [some (.ref 0), some (.int p0), some (.int p1)]) (st2 := [.int p0]) (g2 := q1) cdE_146 rfl ?_
    refine ev_call rfl cdE_71 rfl rfl rfl (e_Da_isDirection p0  q1 rfl) ?_
    by_cases hc3 : (f_Da_isDirection p0 q1) = 0
    · rw [if_pos hc3] at h
      refine ev_zft cdE_146 rfl (cn_t hc3) ?_
      refine ev_rn (n := 1) (i2 := 13) (L2 := [some (.ref 0), some (.int p0), some (.int p1)]) (st2 := [.int (-2 : Int32)]) (g2 := q1) cdE_146 rfl ?_
      cases h
      exact ev_ret rfl rfl
    · rw [if_neg hc3] at h
      refine ev_zff rfl (cn_f hc3) ?_
      refine ev_rn (n := 1) (i2 := 10) (L2 := [some (.ref 0), some (.int p0), some (.int p1)]) (st2 := [.int p1]) (g2 := q1) cdE_146 rfl ?_
      refine ev_call rfl cdE_71 rfl rfl rfl (e_Da_isDirection p1  q1 rfl) ?_
      by_cases hc4 : (f_Da_isDirection p1 q1) = 0
      · rw [if_pos hc4] at h
        refine ev_zff rfl (cn_f (fun q => q hc4)) ?_
        refine ev_rn (n := 1) (i2 := 13) (L2 := [some (.ref 0), some (.int p0), some (.int p1)]) (st2 := [.int (-2 : Int32)]) (g2 := q1) cdE_146 rfl ?_
        cases h
        exact ev_ret rfl rfl
      · rw [if_neg hc4] at h
        refine ev_zft cdE_146 rfl (cn_t hc4) ?_
        refine ev_rn (n := 4) (i2 := 18) (L2 := [some (.ref 0), some (.int p0), some (.int p1)]) (st2 := [.int p1, .int p0, .ref 6]) (g2 := q1) cdE_146 rfl ?_
        obtain ⟨q5, hq5, h⟩ := Option.bind_eq_some_iff.mp h
        refine ev_call rfl cdE_145 rfl rfl rfl (e_So_comparePowers 6 p0 p1 (by decide) q1 hq5) ?_
        cases h
        exact ev_ret rfl rfl
def b_Mo_laysPowers_2  (v1 : Int32) (g : M2) : Option ((Int32 × M2) ⊕ M2) := (if (12 : Int32) ≤ v1 then some (.inr g) else ((f_Mo_laysPower ((67 : Int32) + v1) g).bind fun q2 => (if inb v1 12 then (bd (uJ q2 169 v1.toNatClampNeg (q2.2 157 3)) fun g3 => (if inb v1 12 then (bd (uJ g3 170 v1.toNatClampNeg (g3.2 157 4)) fun g4 => some (.inl ((v1 + (1 : Int32)), g4))) else none)) else none)))
theorem tb_Mo_laysPowers_2 {Lx : Nat}   (v1 : Int32) (g : M2) {b : (Int32 × M2) ⊕ M2} {o : Option Value × M2} (h : b_Mo_laysPowers_2 v1 g = some b) (hb : Sum.elim (fun s => Ev Lx 147 cd_147 2 [some (.ref 157), some (.int s.1)] [] s.2 o) (fun e => Ev Lx 147 cd_147 24 [] [] e o) b) : Ev Lx 147 cd_147 2 [some (.ref 157), some (.int v1)] [] g o := by
  unfold b_Mo_laysPowers_2 at h
  refine ev_rn (n := 2) (i2 := 4) (L2 := [some (.ref 157), some (.int v1)]) (st2 := [.int (12 : Int32), .int v1]) (g2 := g) cdE_147 rfl ?_
  by_cases hc1 : (12 : Int32) ≤ v1
  · rw [if_pos hc1] at h
    refine ev_ift cdE_147 rfl (cn_t hc1) ?_
    cases h
    exact ev_wk (L := []) hb trivial
  · rw [if_neg hc1] at h
    refine ev_iff rfl (cn_f hc1) ?_
    refine ev_rn (n := 4) (i2 := 9) (L2 := [some (.ref 157), some (.int v1)]) (st2 := [.int ((67 : Int32) + v1), .ref 157]) (g2 := g) cdE_147 rfl ?_
    obtain ⟨q2, hq2, h⟩ := Option.bind_eq_some_iff.mp h
    refine ev_call rfl cdE_137 rfl rfl rfl (e_Mo_laysPower ((67 : Int32) + v1)  g hq2) ?_
    refine ev_rn (n := 5) (i2 := 15) (L2 := [some (.ref 157), some (.int v1)]) (st2 := [.long (q2.2 157 3), .int v1, .ref 169]) (g2 := q2) cdE_147 rfl ?_
    by_cases hi6 : inb v1 12
    · rw [if_pos hi6] at h
      refine bd_elim h (fun g3 hg3 h => ?_)
      refine ev_lastore (g2 := g3) rfl (show S0[169]? = some (101, 12, List.replicate 12 none) from rfl) (by decide) hi6 (by rw [hg3] <;> rfl) ?_
      refine ev_rn (n := 5) (i2 := 21) (L2 := [some (.ref 157), some (.int v1)]) (st2 := [.long (g3.2 157 4), .int v1, .ref 170]) (g2 := g3) cdE_147 rfl ?_
      by_cases hi5 : inb v1 12
      · rw [if_pos hi5] at h
        refine bd_elim h (fun g4 hg4 h => ?_)
        refine ev_lastore (g2 := g4) rfl (show S0[170]? = some (101, 12, List.replicate 12 none) from rfl) (by decide) hi5 (by rw [hg4] <;> rfl) ?_
        refine ev_rn (n := 2) (i2 := 2) (L2 := [some (.ref 157), some (.int (v1 + (1 : Int32)))]) (st2 := []) (g2 := g4) cdE_147 rfl ?_
        cases h
        exact ev_wk (L := [some (.ref 157), some (.int (v1 + (1 : Int32)))]) hb ⟨rfl, ⟨rfl, trivial⟩⟩
      · rw [if_neg hi5] at h
        cases h
    · rw [if_neg hi6] at h
      cases h
def f_Mo_laysPowers  (g : M2) : Option (M2) := ((lp (fun s => b_Mo_laysPowers_2  s.1 s.2) 5000 ((0 : Int32), g)).bind fun e7 => some e7)
theorem e_Mo_laysPowers {Lx : Nat}   (g : M2) {b : M2} (h : f_Mo_laysPowers  g = some b) : Ev Lx 147 cd_147 0 [some (.ref 157)] [] g (none, b) := by
  unfold f_Mo_laysPowers at h
  refine ev_rn (n := 2) (i2 := 2) (L2 := [some (.ref 157), some (.int (0 : Int32))]) (st2 := []) (g2 := g) cdE_147 rfl ?_
  obtain ⟨e7, he7, h⟩ := Option.bind_eq_some_iff.mp h
  have hX8 : Ev Lx 147 cd_147 24 [] [] e7 (none, b) := by
    cases h
    exact ev_ret rfl rfl
  exact ev_wk (L := [some (.ref 157), some (.int (0 : Int32))]) (lp_ind (P := (fun (s : (Int32 × M2)) => Ev Lx 147 cd_147 2 [some (.ref 157), some (.int s.1)] [] s.2 (none, b))) (fun s s2 hs hP => tb_Mo_laysPowers_2   s.1 s.2 (b := .inl s2) hs hP) (fun s hs => tb_Mo_laysPowers_2   s.1 s.2 (b := .inr e7) hs hX8) _ _ he7) ⟨rfl, ⟨rfl, trivial⟩⟩
def j_Mo_signOf_20 (v4 : Int64) (v6 : Int64) (g : M2) : Option ((Int64 × Int64) ⊕ (Int64 × Int64)) := some (.inl ((((2 : Int64) * v4) + ((3 : Int64) * v6)), (v4 + ((2 : Int64) * v6))))
theorem tj_Mo_signOf_20 {Lx : Nat}  (v4 : Int64) (v6 : Int64)  (g : M2) {b : (Int64 × Int64) ⊕ (Int64 × Int64)} {o : Option Value × M2} (h : j_Mo_signOf_20 v4 v6 g = some b) (hb : Sum.elim (fun s => Ev Lx 148 cd_148 4 [none, none, none, none, some (.long s.1), none, some (.long s.2)] [] g o) (fun e => Ev Lx 148 cd_148 37 [none, none, none, none, some (.long e.1), none, some (.long e.2)] [] g o) b) : Ev Lx 148 cd_148 20 [none, none, none, none, some (.long v4), none, some (.long v6)] [] g o := by
  unfold j_Mo_signOf_20 at h
  refine ev_rn (n := 8) (i2 := 28) (L2 := [none, none, none, none, some (.long v4), none, some (.long v6), none, some (.long (((2 : Int64) * v4) + ((3 : Int64) * v6))), none]) (st2 := []) (g2 := g) cdE_148 rfl ?_
  refine ev_rn (n := 6) (i2 := 34) (L2 := [none, none, none, none, some (.long v4), none, some (.long (v4 + ((2 : Int64) * v6))), none, some (.long (((2 : Int64) * v4) + ((3 : Int64) * v6))), none]) (st2 := []) (g2 := g) cdE_148 rfl ?_
  refine ev_rn (n := 2) (i2 := 36) (L2 := [none, none, none, none, some (.long (((2 : Int64) * v4) + ((3 : Int64) * v6))), none, some (.long (v4 + ((2 : Int64) * v6))), none, some (.long (((2 : Int64) * v4) + ((3 : Int64) * v6))), none]) (st2 := []) (g2 := g) cdE_148 rfl ?_
  refine ev_rn (n := 1) (i2 := 4) (L2 := [none, none, none, none, some (.long (((2 : Int64) * v4) + ((3 : Int64) * v6))), none, some (.long (v4 + ((2 : Int64) * v6))), none, some (.long (((2 : Int64) * v4) + ((3 : Int64) * v6))), none]) (st2 := []) (g2 := g) cdE_148 rfl ?_
  cases h
  exact ev_wk (L := [none, none, none, none, some (.long (((2 : Int64) * v4) + ((3 : Int64) * v6))), none, some (.long (v4 + ((2 : Int64) * v6)))]) hb ⟨rfl, ⟨rfl, trivial⟩⟩
def j_Mo_signOf_12 (v4 : Int64) (v6 : Int64) (g : M2) : Option ((Int64 × Int64) ⊕ (Int64 × Int64)) := (if (0 : Int64) ≤ v4 then some (.inr (v4, v6)) else (if v6 ≤ (0 : Int64) then some (.inr (v4, v6)) else (j_Mo_signOf_20 v4 v6 g)))
theorem tj_Mo_signOf_12 {Lx : Nat}  (v4 : Int64) (v6 : Int64)  (g : M2) {b : (Int64 × Int64) ⊕ (Int64 × Int64)} {o : Option Value × M2} (h : j_Mo_signOf_12 v4 v6 g = some b) (hb : Sum.elim (fun s => Ev Lx 148 cd_148 4 [none, none, none, none, some (.long s.1), none, some (.long s.2)] [] g o) (fun e => Ev Lx 148 cd_148 37 [none, none, none, none, some (.long e.1), none, some (.long e.2)] [] g o) b) : Ev Lx 148 cd_148 12 [none, none, none, none, some (.long v4), none, some (.long v6)] [] g o := by
  unfold j_Mo_signOf_12 at h
  refine ev_rn (n := 3) (i2 := 15) (L2 := [none, none, none, none, some (.long v4), none, some (.long v6)]) (st2 := [.int (lg_cmp v4 (0 : Int64))]) (g2 := g) cdE_148 rfl ?_
  by_cases hc2 : (0 : Int64) ≤ v4
  · rw [if_pos hc2] at h
    refine ev_zft cdE_148 rfl (lc_ge_t hc2) ?_
    cases h
    exact ev_wk (L := [none, none, none, none, some (.long v4), none, some (.long v6)]) hb ⟨rfl, ⟨rfl, trivial⟩⟩
  · rw [if_neg hc2] at h
    refine ev_zff rfl (lc_ge_f hc2) ?_
    refine ev_rn (n := 3) (i2 := 19) (L2 := [none, none, none, none, some (.long v4), none, some (.long v6)]) (st2 := [.int (lg_cmp v6 (0 : Int64))]) (g2 := g) cdE_148 rfl ?_
    by_cases hc3 : v6 ≤ (0 : Int64)
    · rw [if_pos hc3] at h
      refine ev_zft cdE_148 rfl (lc_le_t hc3) ?_
      cases h
      exact ev_wk (L := [none, none, none, none, some (.long v4), none, some (.long v6)]) hb ⟨rfl, ⟨rfl, trivial⟩⟩
    · rw [if_neg hc3] at h
      refine ev_zff rfl (lc_le_f hc3) ?_
      exact ev_wk (L := [none, none, none, none, some (.long v4), none, some (.long v6)]) (tj_Mo_signOf_20  v4 v6  g h hb) ⟨rfl, ⟨rfl, trivial⟩⟩
def b_Mo_signOf_4  (v4 : Int64) (v6 : Int64) (g : M2) : Option ((Int64 × Int64) ⊕ (Int64 × Int64)) := (if v4 ≤ (0 : Int64) then (j_Mo_signOf_12 v4 v6 g) else (if v6 < (0 : Int64) then (j_Mo_signOf_20 v4 v6 g) else (j_Mo_signOf_12 v4 v6 g)))
theorem tb_Mo_signOf_4 {Lx : Nat}   (v4 : Int64) (v6 : Int64) (g : M2) {b : (Int64 × Int64) ⊕ (Int64 × Int64)} {o : Option Value × M2} (h : b_Mo_signOf_4 v4 v6 g = some b) (hb : Sum.elim (fun s => Ev Lx 148 cd_148 4 [none, none, none, none, some (.long s.1), none, some (.long s.2)] [] g o) (fun e => Ev Lx 148 cd_148 37 [none, none, none, none, some (.long e.1), none, some (.long e.2)] [] g o) b) : Ev Lx 148 cd_148 4 [none, none, none, none, some (.long v4), none, some (.long v6)] [] g o := by
  unfold b_Mo_signOf_4 at h
  refine ev_rn (n := 3) (i2 := 7) (L2 := [none, none, none, none, some (.long v4), none, some (.long v6)]) (st2 := [.int (lg_cmp v4 (0 : Int64))]) (g2 := g) cdE_148 rfl ?_
  by_cases hc1 : v4 ≤ (0 : Int64)
  · rw [if_pos hc1] at h
    refine ev_zft cdE_148 rfl (lc_le_t hc1) ?_
    exact ev_wk (L := [none, none, none, none, some (.long v4), none, some (.long v6)]) (tj_Mo_signOf_12  v4 v6  g h hb) ⟨rfl, ⟨rfl, trivial⟩⟩
  · rw [if_neg hc1] at h
    refine ev_zff rfl (lc_le_f hc1) ?_
    refine ev_rn (n := 3) (i2 := 11) (L2 := [none, none, none, none, some (.long v4), none, some (.long v6)]) (st2 := [.int (lg_cmp v6 (0 : Int64))]) (g2 := g) cdE_148 rfl ?_
    by_cases hc4 : v6 < (0 : Int64)
    · rw [if_pos hc4] at h
      refine ev_zft cdE_148 rfl (lc_lt_t hc4) ?_
      exact ev_wk (L := [none, none, none, none, some (.long v4), none, some (.long v6)]) (tj_Mo_signOf_20  v4 v6  g h hb) ⟨rfl, ⟨rfl, trivial⟩⟩
    · rw [if_neg hc4] at h
      refine ev_zff rfl (lc_lt_f hc4) ?_
      exact ev_wk (L := [none, none, none, none, some (.long v4), none, some (.long v6)]) (tj_Mo_signOf_12  v4 v6  g h hb) ⟨rfl, ⟨rfl, trivial⟩⟩
def j_Mo_signOf_37 (v4 : Int64) (v6 : Int64) (g : M2) : Option (Int32) := (if (0 : Int64) < v4 then some (1 : Int32) else (if v6 ≤ (0 : Int64) then (if v4 < (0 : Int64) then some (-1 : Int32) else (if (0 : Int64) ≤ v6 then some (0 : Int32) else some (-1 : Int32))) else some (1 : Int32)))
theorem tj_Mo_signOf_37 {Lx : Nat}  (v4 : Int64) (v6 : Int64)  (g : M2) {b : Int32} (h : j_Mo_signOf_37 v4 v6 g = some b) : Ev Lx 148 cd_148 37 [none, none, none, none, some (.long v4), none, some (.long v6)] [] g (some (.int b), g) := by
  unfold j_Mo_signOf_37 at h
  refine ev_rn (n := 3) (i2 := 40) (L2 := [none, none, none, none, some (.long v4), none, some (.long v6)]) (st2 := [.int (lg_cmp v4 (0 : Int64))]) (g2 := g) cdE_148 rfl ?_
  by_cases hc6 : (0 : Int64) < v4
  · rw [if_pos hc6] at h
    refine ev_zft cdE_148 rfl (lc_gt_t hc6) ?_
    refine ev_rn (n := 2) (i2 := 58) (L2 := [none, none, none, none, some (.long v4), none, some (.long v6)]) (st2 := [.int (1 : Int32)]) (g2 := g) cdE_148 rfl ?_
    cases h
    exact ev_ret rfl rfl
  · rw [if_neg hc6] at h
    refine ev_zff rfl (lc_gt_f hc6) ?_
    refine ev_rn (n := 3) (i2 := 44) (L2 := [none, none, none, none, some (.long v4), none, some (.long v6)]) (st2 := [.int (lg_cmp v6 (0 : Int64))]) (g2 := g) cdE_148 rfl ?_
    by_cases hc7 : v6 ≤ (0 : Int64)
    · rw [if_pos hc7] at h
      refine ev_zft cdE_148 rfl (lc_le_t hc7) ?_
      refine ev_rn (n := 3) (i2 := 50) (L2 := [none, none, none, none, some (.long v4), none, some (.long v6)]) (st2 := [.int (lg_cmp v4 (0 : Int64))]) (g2 := g) cdE_148 rfl ?_
      by_cases hc8 : v4 < (0 : Int64)
      · rw [if_pos hc8] at h
        refine ev_zft cdE_148 rfl (lc_lt_t hc8) ?_
        refine ev_rn (n := 2) (i2 := 58) (L2 := [none, none, none, none, some (.long v4), none, some (.long v6)]) (st2 := [.int (-1 : Int32)]) (g2 := g) cdE_148 rfl ?_
        cases h
        exact ev_ret rfl rfl
      · rw [if_neg hc8] at h
        refine ev_zff rfl (lc_lt_f hc8) ?_
        refine ev_rn (n := 3) (i2 := 54) (L2 := [none, none, none, none, some (.long v4), none, some (.long v6)]) (st2 := [.int (lg_cmp v6 (0 : Int64))]) (g2 := g) cdE_148 rfl ?_
        by_cases hc9 : (0 : Int64) ≤ v6
        · rw [if_pos hc9] at h
          refine ev_zft cdE_148 rfl (lc_ge_t hc9) ?_
          refine ev_rn (n := 1) (i2 := 58) (L2 := [none, none, none, none, some (.long v4), none, some (.long v6)]) (st2 := [.int (0 : Int32)]) (g2 := g) cdE_148 rfl ?_
          cases h
          exact ev_ret rfl rfl
        · rw [if_neg hc9] at h
          refine ev_zff rfl (lc_ge_f hc9) ?_
          refine ev_rn (n := 2) (i2 := 58) (L2 := [none, none, none, none, some (.long v4), none, some (.long v6)]) (st2 := [.int (-1 : Int32)]) (g2 := g) cdE_148 rfl ?_
          cases h
          exact ev_ret rfl rfl
    · rw [if_neg hc7] at h
      refine ev_zff rfl (lc_le_f hc7) ?_
      refine ev_rn (n := 2) (i2 := 58) (L2 := [none, none, none, none, some (.long v4), none, some (.long v6)]) (st2 := [.int (1 : Int32)]) (g2 := g) cdE_148 rfl ?_
      cases h
      exact ev_ret rfl rfl
def f_Mo_signOf (p0 : Int64) (p1 : Int64) (g : M2) : Option (Int32) := ((lp (fun s => b_Mo_signOf_4  s.1 s.2 g) 5000 (p0, p1)).bind fun e5 => (j_Mo_signOf_37 e5.1 e5.2 g))
theorem e_Mo_signOf {Lx : Nat} (p0 : Int64) (p1 : Int64)  (g : M2) {b : Int32} (h : f_Mo_signOf p0 p1 g = some b) : Ev Lx 148 cd_148 0 [some (.long p0), none, some (.long p1), none] [] g (some (.int b), g) := by
  unfold f_Mo_signOf at h
  refine ev_rn (n := 2) (i2 := 2) (L2 := [some (.long p0), none, some (.long p1), none, some (.long p0), none]) (st2 := []) (g2 := g) cdE_148 rfl ?_
  refine ev_rn (n := 2) (i2 := 4) (L2 := [some (.long p0), none, some (.long p1), none, some (.long p0), none, some (.long p1), none]) (st2 := []) (g2 := g) cdE_148 rfl ?_
  obtain ⟨e5, he5, h⟩ := Option.bind_eq_some_iff.mp h
  have hX10 : Ev Lx 148 cd_148 37 [none, none, none, none, some (.long e5.1), none, some (.long e5.2)] [] g (some (.int b), g) := by
    exact ev_wk (L := [none, none, none, none, some (.long e5.1), none, some (.long e5.2)]) (tj_Mo_signOf_37  e5.1 e5.2  g h) ⟨rfl, ⟨rfl, trivial⟩⟩
  exact ev_wk (L := [none, none, none, none, some (.long p0), none, some (.long p1)]) (lp_ind (P := (fun (s : (Int64 × Int64)) => Ev Lx 148 cd_148 4 [none, none, none, none, some (.long s.1), none, some (.long s.2)] [] g (some (.int b), g))) (fun s s2 hs hP => tb_Mo_signOf_4   s.1 s.2 g (b := .inl s2) hs hP) (fun s hs => tb_Mo_signOf_4   s.1 s.2 g (b := .inr e5) hs hX10) _ _ he5) ⟨rfl, ⟨rfl, trivial⟩⟩
