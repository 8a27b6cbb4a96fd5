def b_Re_take_2 (v1 : Int32) (v2 : Int32) (g : M2) : Option ((Int32 × M2) ⊕ M2) := (if v2 < 0 then some (.inr g) else (if (300 : Int32) ≤ (g.1 1 2) then some (.inr g) else (if inb (g.1 1 2) 300 then (bd (uI g 2 (g.1 1 2).toNatClampNeg ((v1 >>> (v2 &&& 31)) &&& (255 : Int32))) fun g3 => (bd (uI g3 1 2 ((g3.1 1 2) + (1 : Int32))) fun g4 => some (.inl ((v2 + (-8 : Int32)), g4)))) else none)))
theorem tb_Re_take_2 {Lx : Nat} (v1 : Int32)  (v2 : Int32) (g : M2) {b : (Int32 × M2) ⊕ M2} {o : Option Value × M2} (h : b_Re_take_2 v1 v2 g = some b) (hb : Sum.elim (fun s => Ev Lx 12 cd_12 2 [some (.ref 1), some (.int v1), some (.int s.1)] [] s.2 o) (fun e => Ev Lx 12 cd_12 26 [] [] e o) b) : Ev Lx 12 cd_12 2 [some (.ref 1), some (.int v1), some (.int v2)] [] g o := by
  unfold b_Re_take_2 at h
  refine ev_rn (n := 1) (i2 := 3) (L2 := [some (.ref 1), some (.int v1), some (.int v2)]) (st2 := [.int v2]) (g2 := g) cdE_12 rfl ?_
  by_cases hc1 : v2 < 0
  · rw [if_pos hc1] at h
    refine ev_zft cdE_12 rfl (cn_t hc1) ?_
    cases h
    exact ev_wk (L := []) hb trivial
  · rw [if_neg hc1] at h
    refine ev_zff rfl (cn_f hc1) ?_
    refine ev_rn (n := 3) (i2 := 7) (L2 := [some (.ref 1), some (.int v1), some (.int v2)]) (st2 := [.int (300 : Int32), .int (g.1 1 2)]) (g2 := g) cdE_12 rfl ?_
    by_cases hc2 : (300 : Int32) ≤ (g.1 1 2)
    · rw [if_pos hc2] at h
      refine ev_ift cdE_12 rfl (cn_t hc2) ?_
      cases h
      exact ev_wk (L := []) hb trivial
    · rw [if_neg hc2] at h
      refine ev_iff rfl (cn_f hc2) ?_
      refine ev_rn (n := 9) (i2 := 17) (L2 := [some (.ref 1), some (.int v1), some (.int v2)]) (st2 := [.int ((v1 >>> (v2 &&& 31)) &&& (255 : Int32)), .int (g.1 1 2), .ref 2]) (g2 := g) cdE_12 rfl ?_
      by_cases hi5 : inb (g.1 1 2) 300
      · rw [if_pos hi5] at h
        refine bd_elim h (fun g3 hg3 h => ?_)
        refine ev_iastore (g2 := g3) rfl (show S0[2]? = some (100, 300, List.replicate 300 none) from rfl) (by decide) hi5 (by rw [hg3] <;> rfl) ?_
        refine ev_rn (n := 5) (i2 := 23) (L2 := [some (.ref 1), some (.int v1), some (.int v2)]) (st2 := [.int ((g3.1 1 2) + (1 : Int32)), .ref 1]) (g2 := g3) cdE_12 rfl ?_
        refine bd_elim h (fun g4 hg4 h => ?_)
        refine ev_pf (g2 := g4) rfl (rfl : S0[1]? = some _) (by decide) (by rw [hg4] <;> rfl) ?_
        refine ev_rn (n := 2) (i2 := 2) (L2 := [some (.ref 1), some (.int v1), some (.int (v2 + (-8 : Int32)))]) (st2 := []) (g2 := g4) cdE_12 rfl ?_
        cases h
        exact ev_wk (L := [some (.ref 1), some (.int v1), some (.int (v2 + (-8 : Int32)))]) hb ⟨rfl, ⟨rfl, ⟨rfl, trivial⟩⟩⟩
      · rw [if_neg hi5] at h
        cases h
def f_Re_take (p0 : Int32) (g : M2) : Option (M2) := ((lp (fun s => b_Re_take_2 p0 s.1 s.2) 5000 ((24 : Int32), g)).bind fun e6 => some e6)
theorem e_Re_take {Lx : Nat} (p0 : Int32)  (g : M2) {b : M2} (h : f_Re_take p0 g = some b) : Ev Lx 12 cd_12 0 [some (.ref 1), some (.int p0)] [] g (none, b) := by
  unfold f_Re_take at h
  refine ev_rn (n := 2) (i2 := 2) (L2 := [some (.ref 1), some (.int p0), some (.int (24 : Int32))]) (st2 := []) (g2 := g) cdE_12 rfl ?_
  obtain ⟨e6, he6, h⟩ := Option.bind_eq_some_iff.mp h
  have hX7 : Ev Lx 12 cd_12 26 [] [] e6 (none, b) := by
    cases h
    exact ev_ret rfl rfl
  exact ev_wk (L := [some (.ref 1), some (.int p0), some (.int (24 : Int32))]) (lp_ind (P := (fun (s : (Int32 × M2)) => Ev Lx 12 cd_12 2 [some (.ref 1), some (.int p0), some (.int s.1)] [] s.2 (none, b))) (fun s s2 hs hP => tb_Re_take_2 p0  s.1 s.2 (b := .inl s2) hs hP) (fun s hs => tb_Re_take_2 p0  s.1 s.2 (b := .inr e6) hs hX7) _ _ he6) ⟨rfl, ⟨rfl, ⟨rfl, trivial⟩⟩⟩
def f_Da_feed (p0 : Int32) (p1 : Int32) (p2 : Int32) (p3 : Int32) (p4 : Int32) (g : M2) : Option (Int32 × M2) := (if ((g.1 1 2) + (20 : Int32)) ≤ (300 : Int32) then ((f_Re_take p0 g).bind fun q2 => ((f_Re_take p1 q2).bind fun q3 => ((f_Re_take p2 q3).bind fun q4 => ((f_Re_take p3 q4).bind fun q5 => ((f_Re_take p4 q5).bind fun q6 => some ((q6.1 1 2), q6)))))) else some ((-1 : Int32), g))
theorem e_Da_feed {Lx : Nat} (p0 : Int32) (p1 : Int32) (p2 : Int32) (p3 : Int32) (p4 : Int32)  (g : M2) {b : (Int32 × M2)} (h : f_Da_feed p0 p1 p2 p3 p4 g = some b) : Ev Lx 13 cd_13 0 [some (.ref 0), some (.int p0), some (.int p1), some (.int p2), some (.int p3), some (.int p4)] [] g (some (.int b.1), b.2) := by
  unfold f_Da_feed at h
  refine ev_rn (n := 6) (i2 := 6) (L2 := [some (.ref 0), some (.int p0), some (.int p1), some (.int p2), some (.int p3), some (.int p4)]) (st2 := [.int (300 : Int32), .int ((g.1 1 2) + (20 : Int32))]) (g2 := g) cdE_13 rfl ?_
  by_cases hc1 : ((g.1 1 2) + (20 : Int32)) ≤ (300 : Int32)
  · rw [if_pos hc1] at h
    refine ev_ift cdE_13 rfl (cn_t hc1) ?_
    refine ev_rn (n := 3) (i2 := 12) (L2 := [some (.ref 0), some (.int p0), some (.int p1), some (.int p2), some (.int p3), some (.int p4)]) (st2 := [.int p0, .ref 1]) (g2 := g) cdE_13 rfl ?_
    obtain ⟨q2, hq2, h⟩ := Option.bind_eq_some_iff.mp h
    refine ev_call rfl cdE_12 rfl rfl rfl (e_Re_take p0  g hq2) ?_
    refine ev_rn (n := 3) (i2 := 16) (L2 := [some (.ref 0), some (.int p0), some (.int p1), some (.int p2), some (.int p3), some (.int p4)]) (st2 := [.int p1, .ref 1]) (g2 := q2) cdE_13 rfl ?_
    obtain ⟨q3, hq3, h⟩ := Option.bind_eq_some_iff.mp h
    refine ev_call rfl cdE_12 rfl rfl rfl (e_Re_take p1  q2 hq3) ?_
    refine ev_rn (n := 3) (i2 := 20) (L2 := [some (.ref 0), some (.int p0), some (.int p1), some (.int p2), some (.int p3), some (.int p4)]) (st2 := [.int p2, .ref 1]) (g2 := q3) cdE_13 rfl ?_
    obtain ⟨q4, hq4, h⟩ := Option.bind_eq_some_iff.mp h
    refine ev_call rfl cdE_12 rfl rfl rfl (e_Re_take p2  q3 hq4) ?_
    refine ev_rn (n := 3) (i2 := 24) (L2 := [some (.ref 0), some (.int p0), some (.int p1), some (.int p2), some (.int p3), some (.int p4)]) (st2 := [.int p3, .ref 1]) (g2 := q4) cdE_13 rfl ?_
    obtain ⟨q5, hq5, h⟩ := Option.bind_eq_some_iff.mp h
    refine ev_call rfl cdE_12 rfl rfl rfl (e_Re_take p3  q4 hq5) ?_
    refine ev_rn (n := 3) (i2 := 28) (L2 := [some (.ref 0), some (.int p0), some (.int p1), some (.int p2), some (.int p3), some (.int p4)]) (st2 := [.int p4, .ref 1]) (g2 := q5) cdE_13 rfl ?_
    obtain ⟨q6, hq6, h⟩ := Option.bind_eq_some_iff.mp h
    refine ev_call rfl cdE_12 rfl rfl rfl (e_Re_take p4  q5 hq6) ?_
    refine ev_rn (n := 3) (i2 := 32) (L2 := [some (.ref 0), some (.int p0), some (.int p1), some (.int p2), some (.int p3), some (.int p4)]) (st2 := [.int (q6.1 1 2)]) (g2 := q6) cdE_13 rfl ?_
    cases h
    exact ev_ret rfl rfl
  · rw [if_neg hc1] at h
    refine ev_iff rfl (cn_f hc1) ?_
    refine ev_rn (n := 1) (i2 := 8) (L2 := [some (.ref 0), some (.int p0), some (.int p1), some (.int p2), some (.int p3), some (.int p4)]) (st2 := [.int (-1 : Int32)]) (g2 := g) cdE_13 rfl ?_
    cases h
    exact ev_ret rfl rfl
def b_Mo_feed_35  (v6 : Int32) (g : M2) : Option ((Int32 × M2) ⊕ M2) := (if (20 : Int32) ≤ v6 then some (.inr g) else (if inb (v6 / (4 : Int32)) 5 then (if inb ((g.1 157 21) + v6) 300 then (bd (uI g 167 ((g.1 157 21) + v6).toNatClampNeg ((g.1 168 (v6 / (4 : Int32)).toNatClampNeg) >>> (((24 : Int32) - ((8 : Int32) * (v6 - v6 / (4 : Int32) * (4 : Int32)))) &&& 31)).toInt8.toInt32.toInt8.toInt32) fun g9 => some (.inl ((v6 + (1 : Int32)), g9))) else none) else none))
theorem tb_Mo_feed_35 {Lx : Nat}   (v6 : Int32) (g : M2) {b : (Int32 × M2) ⊕ M2} {o : Option Value × M2} (h : b_Mo_feed_35 v6 g = some b) (hb : Sum.elim (fun s => Ev Lx 14 cd_14 35 [some (.ref 157), none, none, none, none, none, some (.int s.1)] [] s.2 o) (fun e => Ev Lx 14 cd_14 62 [some (.ref 157)] [] e o) b) : Ev Lx 14 cd_14 35 [some (.ref 157), none, none, none, none, none, some (.int v6)] [] g o := by
  unfold b_Mo_feed_35 at h
  refine ev_rn (n := 2) (i2 := 37) (L2 := [some (.ref 157), none, none, none, none, none, some (.int v6)]) (st2 := [.int (20 : Int32), .int v6]) (g2 := g) cdE_14 rfl ?_
  by_cases hc7 : (20 : Int32) ≤ v6
  · rw [if_pos hc7] at h
    refine ev_ift cdE_14 rfl (cn_t hc7) ?_
    cases h
    exact ev_wk (L := [some (.ref 157)]) hb ⟨rfl, trivial⟩
  · rw [if_neg hc7] at h
    refine ev_iff rfl (cn_f hc7) ?_
    refine ev_rn (n := 10) (i2 := 48) (L2 := [some (.ref 157), none, none, none, none, none, some (.int v6)]) (st2 := [.int (4 : Int32), .int v6, .ref 168, .int ((g.1 157 21) + v6), .ref 167]) (g2 := g) cdE_14 rfl ?_
    refine ev_idiv rfl (by decide) ?_
    by_cases hi8 : inb (v6 / (4 : Int32)) 5
    · rw [if_pos hi8] at h
      refine ev_iaload (v := .int (g.1 168 (v6 / (4 : Int32)).toNatClampNeg)) rfl (kd_of (show S0[168]? = some (100, 5, List.replicate 5 none) from rfl)) (by decide) hi8 rfl ?_
      refine ev_rn (n := 4) (i2 := 54) (L2 := [some (.ref 157), none, none, none, none, none, some (.int v6)]) (st2 := [.int (4 : Int32), .int v6, .int (8 : Int32), .int (24 : Int32), .int (g.1 168 (v6 / (4 : Int32)).toNatClampNeg), .int ((g.1 157 21) + v6), .ref 167]) (g2 := g) cdE_14 rfl ?_
      refine ev_irem rfl (by decide) ?_
      refine ev_rn (n := 4) (i2 := 59) (L2 := [some (.ref 157), none, none, none, none, none, some (.int v6)]) (st2 := [.int ((g.1 168 (v6 / (4 : Int32)).toNatClampNeg) >>> (((24 : Int32) - ((8 : Int32) * (v6 - v6 / (4 : Int32) * (4 : Int32)))) &&& 31)).toInt8.toInt32, .int ((g.1 157 21) + v6), .ref 167]) (g2 := g) cdE_14 rfl ?_
      by_cases hi10 : inb ((g.1 157 21) + v6) 300
      · rw [if_pos hi10] at h
        refine bd_elim h (fun g9 hg9 h => ?_)
        refine ev_bastore (g2 := g9) rfl (show S0[167]? = some (102, 300, List.replicate 300 none) from rfl) (by decide) hi10 (by rw [hg9] <;> rfl) ?_
        refine ev_rn (n := 2) (i2 := 35) (L2 := [some (.ref 157), none, none, none, none, none, some (.int (v6 + (1 : Int32)))]) (st2 := []) (g2 := g9) cdE_14 rfl ?_
        cases h
        exact ev_wk (L := [some (.ref 157), none, none, none, none, none, some (.int (v6 + (1 : Int32)))]) hb ⟨rfl, ⟨rfl, trivial⟩⟩
      · rw [if_neg hi10] at h
        cases h
    · rw [if_neg hi8] at h
      cases h
def f_Mo_feed (p0 : Int32) (p1 : Int32) (p2 : Int32) (p3 : Int32) (p4 : Int32) (g : M2) : Option (Int32 × M2) := (if ((g.1 157 21) + (20 : Int32)) ≤ (300 : Int32) then (bd (uI g 168 0 p0) fun g2 => (bd (uI g2 168 1 p1) fun g3 => (bd (uI g3 168 2 p2) fun g4 => (bd (uI g4 168 3 p3) fun g5 => (bd (uI g5 168 4 p4) fun g6 => ((lp (fun s => b_Mo_feed_35  s.1 s.2) 5000 ((0 : Int32), g6)).bind fun e11 => (bd (uI e11 157 21 ((e11.1 157 21) + (20 : Int32))) fun g12 => some ((g12.1 157 21), g12)))))))) else some ((-1 : Int32), g))
theorem e_Mo_feed {Lx : Nat} (p0 : Int32) (p1 : Int32) (p2 : Int32) (p3 : Int32) (p4 : Int32)  (g : M2) {b : (Int32 × M2)} (h : f_Mo_feed p0 p1 p2 p3 p4 g = some b) : Ev Lx 14 cd_14 0 [some (.ref 157), some (.int p0), some (.int p1), some (.int p2), some (.int p3), some (.int p4)] [] g (some (.int b.1), b.2) := by
  unfold f_Mo_feed at h
  refine ev_rn (n := 5) (i2 := 5) (L2 := [some (.ref 157), some (.int p0), some (.int p1), some (.int p2), some (.int p3), some (.int p4)]) (st2 := [.int (300 : Int32), .int ((g.1 157 21) + (20 : Int32))]) (g2 := g) cdE_14 rfl ?_
  by_cases hc1 : ((g.1 157 21) + (20 : Int32)) ≤ (300 : Int32)
  · rw [if_pos hc1] at h
    refine ev_ift cdE_14 rfl (cn_t hc1) ?_
    refine ev_rn (n := 4) (i2 := 12) (L2 := [some (.ref 157), some (.int p0), some (.int p1), some (.int p2), some (.int p3), some (.int p4)]) (st2 := [.int p0, .int (0 : Int32), .ref 168]) (g2 := g) cdE_14 rfl ?_
    refine bd_elim h (fun g2 hg2 h => ?_)
    refine ev_iastore (g2 := g2) rfl (show S0[168]? = some (100, 5, List.replicate 5 none) from rfl) (by decide) ⟨by decide, by decide⟩ (by rw [hg2] <;> rfl) ?_
    refine ev_rn (n := 4) (i2 := 17) (L2 := [some (.ref 157), some (.int p0), some (.int p1), some (.int p2), some (.int p3), some (.int p4)]) (st2 := [.int p1, .int (1 : Int32), .ref 168]) (g2 := g2) cdE_14 rfl ?_
    refine bd_elim h (fun g3 hg3 h => ?_)
    refine ev_iastore (g2 := g3) rfl (show S0[168]? = some (100, 5, List.replicate 5 none) from rfl) (by decide) ⟨by decide, by decide⟩ (by rw [hg3] <;> rfl) ?_
    refine ev_rn (n := 4) (i2 := 22) (L2 := [some (.ref 157), some (.int p0), some (.int p1), some (.int p2), some (.int p3), some (.int p4)]) (st2 := [.int p2, .int (2 : Int32), .ref 168]) (g2 := g3) cdE_14 rfl ?_
    refine bd_elim h (fun g4 hg4 h => ?_)
    refine ev_iastore (g2 := g4) rfl (show S0[168]? = some (100, 5, List.replicate 5 none) from rfl) (by decide) ⟨by decide, by decide⟩ (by rw [hg4] <;> rfl) ?_
    refine ev_rn (n := 4) (i2 := 27) (L2 := [some (.ref 157), some (.int p0), some (.int p1), some (.int p2), some (.int p3), some (.int p4)]) (st2 := [.int p3, .int (3 : Int32), .ref 168]) (g2 := g4) cdE_14 rfl ?_
    refine bd_elim h (fun g5 hg5 h => ?_)
    refine ev_iastore (g2 := g5) rfl (show S0[168]? = some (100, 5, List.replicate 5 none) from rfl) (by decide) ⟨by decide, by decide⟩ (by rw [hg5] <;> rfl) ?_
    refine ev_rn (n := 4) (i2 := 32) (L2 := [some (.ref 157), some (.int p0), some (.int p1), some (.int p2), some (.int p3), some (.int p4)]) (st2 := [.int p4, .int (4 : Int32), .ref 168]) (g2 := g5) cdE_14 rfl ?_
    refine bd_elim h (fun g6 hg6 h => ?_)
    refine ev_iastore (g2 := g6) rfl (show S0[168]? = some (100, 5, List.replicate 5 none) from rfl) (by decide) ⟨by decide, by decide⟩ (by rw [hg6] <;> rfl) ?_
    refine ev_rn (n := 2) (i2 := 35) (L2 := [some (.ref 157), some (.int p0), some (.int p1), some (.int p2), some (.int p3), some (.int p4), some (.int (0 : Int32))]) (st2 := []) (g2 := g6) cdE_14 rfl ?_
    obtain ⟨e11, he11, h⟩ := Option.bind_eq_some_iff.mp h
    have hX13 : Ev Lx 14 cd_14 62 [some (.ref 157)] [] e11 (some (.int b.1), b.2) := by
      refine ev_rn (n := 5) (i2 := 67) (L2 := [some (.ref 157)]) (st2 := [.int ((e11.1 157 21) + (20 : Int32)), .ref 157]) (g2 := e11) cdE_14 rfl ?_
      refine bd_elim h (fun g12 hg12 h => ?_)
      refine ev_pf (g2 := g12) rfl (rfl : S0[157]? = some _) (by decide) (by rw [hg12] <;> rfl) ?_
      refine ev_rn (n := 2) (i2 := 70) (L2 := [some (.ref 157)]) (st2 := [.int (g12.1 157 21)]) (g2 := g12) cdE_14 rfl ?_
      cases h
      exact ev_ret rfl rfl
    exact ev_wk (L := [some (.ref 157), none, none, none, none, none, some (.int (0 : Int32))]) (lp_ind (P := (fun (s : (Int32 × M2)) => Ev Lx 14 cd_14 35 [some (.ref 157), none, none, none, none, none, some (.int s.1)] [] s.2 (some (.int b.1), b.2))) (fun s s2 hs hP => tb_Mo_feed_35   s.1 s.2 (b := .inl s2) hs hP) (fun s hs => tb_Mo_feed_35   s.1 s.2 (b := .inr e11) hs hX13) _ _ he11) ⟨rfl, ⟨rfl, trivial⟩⟩
  · rw [if_neg hc1] at h
    refine ev_iff rfl (cn_f hc1) ?_
    refine ev_rn (n := 1) (i2 := 7) (L2 := [some (.ref 157), some (.int p0), some (.int p1), some (.int p2), some (.int p3), some (.int p4)]) (st2 := [.int (-1 : Int32)]) (g2 := g) cdE_14 rfl ?_
    cases h
    exact ev_ret rfl rfl
def f_Da_end (p0 : Int32) (g : M2) : Option (Int32 × M2) := (if p0 < 0 then some ((-1 : Int32), g) else (if p0 ≤ (g.1 1 2) then (bd (uI g 1 2 p0) fun g3 => some (p0, g3)) else some ((-1 : Int32), g)))
theorem e_Da_end {Lx : Nat} (p0 : Int32)  (g : M2) {b : (Int32 × M2)} (h : f_Da_end p0 g = some b) : Ev Lx 15 cd_15 0 [some (.ref 0), some (.int p0)] [] g (some (.int b.1), b.2) := by
  unfold f_Da_end at h
  refine ev_rn (n := 1) (i2 := 1) (L2 := [some (.ref 0), some (.int p0)]) (st2 := [.int p0]) (g2 := g) cdE_15 rfl ?_
  by_cases hc1 : p0 < 0
  · rw [if_pos hc1] at h
    refine ev_zft cdE_15 rfl (cn_t hc1) ?_
    refine ev_rn (n := 1) (i2 := 8) (L2 := [some (.ref 0), some (.int p0)]) (st2 := [.int (-1 : Int32)]) (g2 := g) cdE_15 rfl ?_
    cases h
    exact ev_ret rfl rfl
  · rw [if_neg hc1] at h
    refine ev_zff rfl (cn_f hc1) ?_
    refine ev_rn (n := 4) (i2 := 6) (L2 := [some (.ref 0), some (.int p0)]) (st2 := [.int (g.1 1 2), .int p0]) (g2 := g) cdE_15 rfl ?_
    by_cases hc2 : p0 ≤ (g.1 1 2)
    · rw [if_pos hc2] at h
      refine ev_ift cdE_15 rfl (cn_t hc2) ?_
      refine ev_rn (n := 3) (i2 := 12) (L2 := [some (.ref 0), some (.int p0)]) (st2 := [.int p0, .ref 1]) (g2 := g) cdE_15 rfl ?_
      refine bd_elim h (fun g3 hg3 h => ?_)
      refine ev_pf (g2 := g3) rfl (rfl : S0[1]? = some _) (by decide) (by rw [hg3] <;> rfl) ?_
      refine ev_rn (n := 1) (i2 := 14) (L2 := [some (.ref 0), some (.int p0)]) (st2 := [.int p0]) (g2 := g3) cdE_15 rfl ?_
      cases h
      exact ev_ret rfl rfl
    · rw [if_neg hc2] at h
      refine ev_iff rfl (cn_f hc2) ?_
      refine ev_rn (n := 1) (i2 := 8) (L2 := [some (.ref 0), some (.int p0)]) (st2 := [.int (-1 : Int32)]) (g2 := g) cdE_15 rfl ?_
      cases h
      exact ev_ret rfl rfl
def f_Mo_in (p0 : Int64) (p1 : Int64) (p2 : Int64) (g : M2) : Int32 := (if p0 < p1 then (0 : Int32) else (if p2 < p0 then (0 : Int32) else (1 : Int32)))
theorem e_Mo_in {Lx : Nat} (p0 : Int64) (p1 : Int64) (p2 : Int64)  (g : M2) {b : Int32} (h : f_Mo_in p0 p1 p2 g = b) : Ev Lx 16 cd_16 0 [some (.long p0), none, some (.long p1), none, some (.long p2), none] [] g (some (.int b), g) := by
  unfold f_Mo_in at h
  refine ev_rn (n := 3) (i2 := 3) (L2 := [some (.long p0), none, some (.long p1), none, some (.long p2), none]) (st2 := [.int (lg_cmp p0 p1)]) (g2 := g) cdE_16 rfl ?_
  by_cases hc1 : p0 < p1
  · rw [if_pos hc1] at h
    refine ev_zft cdE_16 rfl (lc_lt_t hc1) ?_
    refine ev_rn (n := 1) (i2 := 11) (L2 := [some (.long p0), none, some (.long p1), none, some (.long p2), none]) (st2 := [.int (0 : Int32)]) (g2 := g) cdE_16 rfl ?_
    subst h
    exact ev_ret rfl rt_0
  · rw [if_neg hc1] at h
    refine ev_zff rfl (lc_lt_f hc1) ?_
    refine ev_rn (n := 3) (i2 := 7) (L2 := [some (.long p0), none, some (.long p1), none, some (.long p2), none]) (st2 := [.int (lg_cmp p0 p2)]) (g2 := g) cdE_16 rfl ?_
    by_cases hc2 : p2 < p0
    · rw [if_pos hc2] at h
      refine ev_zft cdE_16 rfl (lc_gt_t hc2) ?_
      refine ev_rn (n := 1) (i2 := 11) (L2 := [some (.long p0), none, some (.long p1), none, some (.long p2), none]) (st2 := [.int (0 : Int32)]) (g2 := g) cdE_16 rfl ?_
      subst h
      exact ev_ret rfl rt_0
    · rw [if_neg hc2] at h
      refine ev_zff rfl (lc_gt_f hc2) ?_
      refine ev_rn (n := 2) (i2 := 11) (L2 := [some (.long p0), none, some (.long p1), none, some (.long p2), none]) (st2 := [.int (1 : Int32)]) (g2 := g) cdE_16 rfl ?_
      subst h
      exact ev_ret rfl rt_1
def f_Mo_end (p0 : Int32) (g : M2) : Option (Int32 × M2) := (if (f_Mo_in p0.toInt64 (0 : Int64) (g.1 157 21).toInt64 g) = 0 then some ((-1 : Int32), g) else (bd (uI g 157 21 p0) fun g2 => some (p0, g2)))
theorem e_Mo_end {Lx : Nat} (p0 : Int32)  (g : M2) {b : (Int32 × M2)} (h : f_Mo_end p0 g = some b) : Ev Lx 17 cd_17 0 [some (.ref 157), some (.int p0)] [] g (some (.int b.1), b.2) := by
  unfold f_Mo_end at h
  refine ev_rn (n := 6) (i2 := 6) (L2 := [some (.ref 157), some (.int p0)]) (st2 := [.long (g.1 157 21).toInt64, .long (0 : Int64), .long p0.toInt64]) (g2 := g) cdE_17 rfl ?_
  refine ev_call rfl cdE_16 rfl rfl rfl (e_Mo_in p0.toInt64 (0 : Int64) (g.1 157 21).toInt64  g rfl) ?_
  by_cases hc1 : (f_Mo_in p0.toInt64 (0 : Int64) (g.1 157 21).toInt64 g) = 0
  · rw [if_pos hc1] at h
    refine ev_zff rfl (cn_f (fun q => q hc1)) ?_
    refine ev_rn (n := 1) (i2 := 9) (L2 := [some (.ref 157), some (.int p0)]) (st2 := [.int (-1 : Int32)]) (g2 := g) cdE_17 rfl ?_
    cases h
    exact ev_ret rfl rfl
  · rw [if_neg hc1] at h
    refine ev_zft cdE_17 rfl (cn_t hc1) ?_
    refine ev_rn (n := 2) (i2 := 12) (L2 := [some (.ref 157), some (.int p0)]) (st2 := [.int p0, .ref 157]) (g2 := g) cdE_17 rfl ?_
    refine bd_elim h (fun g2 hg2 h => ?_)
    refine ev_pf (g2 := g2) rfl (rfl : S0[157]? = some _) (by decide) (by rw [hg2] <;> rfl) ?_
    refine ev_rn (n := 1) (i2 := 14) (L2 := [some (.ref 157), some (.int p0)]) (st2 := [.int p0]) (g2 := g2) cdE_17 rfl ?_
    cases h
    exact ev_ret rfl rfl
def f_Pl_clear (a0 : Nat) (g : M2) : Option (M2) := (bd (uI g a0 2 (0 : Int32)) fun g1 => (bd (uI g1 a0 3 (0 : Int32)) fun g2 => (bd (uI g2 a0 4 (-1 : Int32)) fun g3 => (bd (uI g3 a0 5 (0 : Int32)) fun g4 => (bd (uI g4 a0 6 (0 : Int32)) fun g5 => (bd (uI g5 a0 7 (0 : Int32)) fun g6 => some g6))))))
theorem e_Pl_clear {Lx : Nat} (a0 : Nat) (ha0 : IsPlan a0) (g : M2) {b : M2} (h : f_Pl_clear a0 g = some b) : Ev Lx 18 cd_18 0 [some (.ref a0)] [] g (none, b) := by
  unfold f_Pl_clear at h
  refine ev_rn (n := 2) (i2 := 2) (L2 := [some (.ref a0)]) (st2 := [.int (0 : Int32), .ref a0]) (g2 := g) cdE_18 rfl ?_
  refine bd_elim h (fun g1 hg1 h => ?_)
  refine ev_pf (g2 := g1) rfl (pl_at ha0) (by decide) (by rw [hg1] <;> rfl) ?_
  refine ev_rn (n := 2) (i2 := 5) (L2 := [some (.ref a0)]) (st2 := [.int (0 : Int32), .ref a0]) (g2 := g1) cdE_18 rfl ?_
  refine bd_elim h (fun g2 hg2 h => ?_)
  refine ev_pf (g2 := g2) rfl (pl_at ha0) (by decide) (by rw [hg2] <;> rfl) ?_
  refine ev_rn (n := 2) (i2 := 8) (L2 := [some (.ref a0)]) (st2 := [.int (-1 : Int32), .ref a0]) (g2 := g2) cdE_18 rfl ?_
  refine bd_elim h (fun g3 hg3 h => ?_)
  refine ev_pf (g2 := g3) rfl (pl_at ha0) (by decide) (by rw [hg3] <;> rfl) ?_
  refine ev_rn (n := 2) (i2 := 11) (L2 := [some (.ref a0)]) (st2 := [.int (0 : Int32), .ref a0]) (g2 := g3) cdE_18 rfl ?_
  refine bd_elim h (fun g4 hg4 h => ?_)
  refine ev_pf (g2 := g4) rfl (pl_at ha0) (by decide) (by rw [hg4] <;> rfl) ?_
  refine ev_rn (n := 2) (i2 := 14) (L2 := [some (.ref a0)]) (st2 := [.int (0 : Int32), .ref a0]) (g2 := g4) cdE_18 rfl ?_
  refine bd_elim h (fun g5 hg5 h => ?_)
  refine ev_pf (g2 := g5) rfl (pl_at ha0) (by decide) (by rw [hg5] <;> rfl) ?_
  refine ev_rn (n := 2) (i2 := 17) (L2 := [some (.ref a0)]) (st2 := [.int (0 : Int32), .ref a0]) (g2 := g5) cdE_18 rfl ?_
  refine bd_elim h (fun g6 hg6 h => ?_)
  refine ev_pf (g2 := g6) rfl (pl_at ha0) (by decide) (by rw [hg6] <;> rfl) ?_
  cases h
  exact ev_ret rfl rfl
def f_Re_isLetter (p0 : Int32) (g : M2) : Int32 := (if p0 < (97 : Int32) then (0 : Int32) else (if (122 : Int32) < p0 then (0 : Int32) else (1 : Int32)))
theorem e_Re_isLetter {Lx : Nat} (p0 : Int32)  (g : M2) {b : Int32} (h : f_Re_isLetter p0 g = b) : Ev Lx 19 cd_19 0 [some (.int p0)] [] g (some (.int b), g) := by
  unfold f_Re_isLetter at h
  refine ev_rn (n := 2) (i2 := 2) (L2 := [some (.int p0)]) (st2 := [.int (97 : Int32), .int p0]) (g2 := g) cdE_19 rfl ?_
  by_cases hc1 : p0 < (97 : Int32)
  · rw [if_pos hc1] at h
    refine ev_ift cdE_19 rfl (cn_t hc1) ?_
    refine ev_rn (n := 1) (i2 := 9) (L2 := [some (.int p0)]) (st2 := [.int (0 : Int32)]) (g2 := g) cdE_19 rfl ?_
    subst h
    exact ev_ret rfl rt_0
  · rw [if_neg hc1] at h
    refine ev_iff rfl (cn_f hc1) ?_
    refine ev_rn (n := 2) (i2 := 5) (L2 := [some (.int p0)]) (st2 := [.int (122 : Int32), .int p0]) (g2 := g) cdE_19 rfl ?_
    by_cases hc2 : (122 : Int32) < p0
    · rw [if_pos hc2] at h
      refine ev_ift cdE_19 rfl (cn_t hc2) ?_
      refine ev_rn (n := 1) (i2 := 9) (L2 := [some (.int p0)]) (st2 := [.int (0 : Int32)]) (g2 := g) cdE_19 rfl ?_
      subst h
      exact ev_ret rfl rt_0
    · rw [if_neg hc2] at h
      refine ev_iff rfl (cn_f hc2) ?_
      refine ev_rn (n := 2) (i2 := 9) (L2 := [some (.int p0)]) (st2 := [.int (1 : Int32)]) (g2 := g) cdE_19 rfl ?_
      subst h
      exact ev_ret rfl rt_1
def f_Re_isDigit (p0 : Int32) (g : M2) : Int32 := (if p0 < (48 : Int32) then (0 : Int32) else (if (57 : Int32) < p0 then (0 : Int32) else (1 : Int32)))
theorem e_Re_isDigit {Lx : Nat} (p0 : Int32)  (g : M2) {b : Int32} (h : f_Re_isDigit p0 g = b) : Ev Lx 20 cd_20 0 [some (.int p0)] [] g (some (.int b), g) := by
  unfold f_Re_isDigit at h
  refine ev_rn (n := 2) (i2 := 2) (L2 := [some (.int p0)]) (st2 := [.int (48 : Int32), .int p0]) (g2 := g) cdE_20 rfl ?_
  by_cases hc1 : p0 < (48 : Int32)
  · rw [if_pos hc1] at h
    refine ev_ift cdE_20 rfl (cn_t hc1) ?_
    refine ev_rn (n := 1) (i2 := 9) (L2 := [some (.int p0)]) (st2 := [.int (0 : Int32)]) (g2 := g) cdE_20 rfl ?_
    subst h
    exact ev_ret rfl rt_0
  · rw [if_neg hc1] at h
    refine ev_iff rfl (cn_f hc1) ?_
    refine ev_rn (n := 2) (i2 := 5) (L2 := [some (.int p0)]) (st2 := [.int (57 : Int32), .int p0]) (g2 := g) cdE_20 rfl ?_
    by_cases hc2 : (57 : Int32) < p0
    · rw [if_pos hc2] at h
      refine ev_ift cdE_20 rfl (cn_t hc2) ?_
      refine ev_rn (n := 1) (i2 := 9) (L2 := [some (.int p0)]) (st2 := [.int (0 : Int32)]) (g2 := g) cdE_20 rfl ?_
      subst h
      exact ev_ret rfl rt_0
    · rw [if_neg hc2] at h
      refine ev_iff rfl (cn_f hc2) ?_
      refine ev_rn (n := 2) (i2 := 9) (L2 := [some (.int p0)]) (st2 := [.int (1 : Int32)]) (g2 := g) cdE_20 rfl ?_
      subst h
      exact ev_ret rfl rt_1
def f_Ma_min (p0 : Int32) (p1 : Int32) (g : M2) : Int32 := (if p1 < p0 then p1 else p0)
theorem e_Ma_min {Lx : Nat} (p0 : Int32) (p1 : Int32)  (g : M2) {b : Int32} (h : f_Ma_min p0 p1 g = b) : Ev Lx 21 cd_21 0 [some (.int p0), some (.int p1)] [] g (some (.int b), g) := by
  unfold f_Ma_min at h
  refine ev_rn (n := 2) (i2 := 2) (L2 := [some (.int p0), some (.int p1)]) (st2 := [.int p1, .int p0]) (g2 := g) cdE_21 rfl ?_
  by_cases hc1 : p1 < p0
  · rw [if_pos hc1] at h
    refine ev_ift cdE_21 rfl (cn_t hc1) ?_
    refine ev_rn (n := 1) (i2 := 6) (L2 := [some (.int p0), some (.int p1)]) (st2 := [.int p1]) (g2 := g) cdE_21 rfl ?_
    subst h
    exact ev_ret rfl rfl
  · rw [if_neg hc1] at h
    refine ev_iff rfl (cn_f hc1) ?_
    refine ev_rn (n := 2) (i2 := 6) (L2 := [some (.int p0), some (.int p1)]) (st2 := [.int p0]) (g2 := g) cdE_21 rfl ?_
    subst h
    exact ev_ret rfl rfl
def b_Re_nextToken_0   (g : M2) : Option (M2 ⊕ M2) := (if (g.1 1 2) ≤ (g.1 1 3) then some (.inr g) else (if inb (g.1 1 3) 300 then (if (g.1 2 (g.1 1 3).toNatClampNeg) = (32 : Int32) then (bd (uI g 1 3 ((g.1 1 3) + (1 : Int32))) fun g4 => some (.inl g4)) else (if inb (g.1 1 3) 300 then (if (g.1 2 (g.1 1 3).toNatClampNeg) = (10 : Int32) then (bd (uI g 1 3 ((g.1 1 3) + (1 : Int32))) fun g7 => some (.inl g7)) else some (.inr g)) else none)) else none))
theorem tb_Re_nextToken_0 {Lx : Nat}    (g : M2) {b : M2 ⊕ M2} {o : Option Value × M2} (h : b_Re_nextToken_0  g = some b) (hb : Sum.elim (fun s => Ev Lx 22 cd_22 0 [some (.ref 1)] [] s o) (fun e => Ev Lx 22 cd_22 26 [some (.ref 1)] [] e o) b) : Ev Lx 22 cd_22 0 [some (.ref 1)] [] g o := by
  unfold b_Re_nextToken_0 at h
  refine ev_rn (n := 4) (i2 := 4) (L2 := [some (.ref 1)]) (st2 := [.int (g.1 1 2), .int (g.1 1 3)]) (g2 := g) cdE_22 rfl ?_
  by_cases hc1 : (g.1 1 2) ≤ (g.1 1 3)
  · rw [if_pos hc1] at h
    refine ev_ift cdE_22 rfl (cn_t hc1) ?_
    cases h
    exact ev_wk (L := [some (.ref 1)]) hb ⟨rfl, trivial⟩
  · rw [if_neg hc1] at h
    refine ev_iff rfl (cn_f hc1) ?_
    refine ev_rn (n := 4) (i2 := 9) (L2 := [some (.ref 1)]) (st2 := [.int (g.1 1 3), .ref 2]) (g2 := g) cdE_22 rfl ?_
    by_cases hi2 : inb (g.1 1 3) 300
    · rw [if_pos hi2] at h
      refine ev_iaload (v := .int (g.1 2 (g.1 1 3).toNatClampNeg)) rfl (kd_of (show S0[2]? = some (100, 300, List.replicate 300 none) from rfl)) (by decide) hi2 rfl ?_
      refine ev_rn (n := 1) (i2 := 11) (L2 := [some (.ref 1)]) (st2 := [.int (32 : Int32), .int (g.1 2 (g.1 1 3).toNatClampNeg)]) (g2 := g) cdE_22 rfl ?_
      by_cases hc3 : (g.1 2 (g.1 1 3).toNatClampNeg) = (32 : Int32)
      · rw [if_pos hc3] at h
        refine ev_ift cdE_22 rfl (cn_t hc3) ?_
        refine ev_rn (n := 5) (i2 := 24) (L2 := [some (.ref 1)]) (st2 := [.int ((g.1 1 3) + (1 : Int32)), .ref 1]) (g2 := g) cdE_22 rfl ?_
        refine bd_elim h (fun g4 hg4 h => ?_)
        refine ev_pf (g2 := g4) rfl (rfl : S0[1]? = some _) (by decide) (by rw [hg4] <;> rfl) ?_
        refine ev_rn (n := 1) (i2 := 0) (L2 := [some (.ref 1)]) (st2 := []) (g2 := g4) cdE_22 rfl ?_
        cases h
        exact ev_wk (L := [some (.ref 1)]) hb ⟨rfl, trivial⟩
      · rw [if_neg hc3] at h
        refine ev_iff rfl (cn_f hc3) ?_
        refine ev_rn (n := 4) (i2 := 16) (L2 := [some (.ref 1)]) (st2 := [.int (g.1 1 3), .ref 2]) (g2 := g) cdE_22 rfl ?_
        by_cases hi5 : inb (g.1 1 3) 300
        · rw [if_pos hi5] at h
          refine ev_iaload (v := .int (g.1 2 (g.1 1 3).toNatClampNeg)) rfl (kd_of (show S0[2]? = some (100, 300, List.replicate 300 none) from rfl)) (by decide) hi5 rfl ?_
          refine ev_rn (n := 1) (i2 := 18) (L2 := [some (.ref 1)]) (st2 := [.int (10 : Int32), .int (g.1 2 (g.1 1 3).toNatClampNeg)]) (g2 := g) cdE_22 rfl ?_
          by_cases hc6 : (g.1 2 (g.1 1 3).toNatClampNeg) = (10 : Int32)
          · rw [if_pos hc6] at h
            refine ev_iff rfl (cn_f (fun q => q hc6)) ?_
            refine ev_rn (n := 5) (i2 := 24) (L2 := [some (.ref 1)]) (st2 := [.int ((g.1 1 3) + (1 : Int32)), .ref 1]) (g2 := g) cdE_22 rfl ?_
            refine bd_elim h (fun g7 hg7 h => ?_)
            refine ev_pf (g2 := g7) rfl (rfl : S0[1]? = some _) (by decide) (by rw [hg7] <;> rfl) ?_
            refine ev_rn (n := 1) (i2 := 0) (L2 := [some (.ref 1)]) (st2 := []) (g2 := g7) cdE_22 rfl ?_
            cases h
            exact ev_wk (L := [some (.ref 1)]) hb ⟨rfl, trivial⟩
          · rw [if_neg hc6] at h
            refine ev_ift cdE_22 rfl (cn_t hc6) ?_
            cases h
            exact ev_wk (L := [some (.ref 1)]) hb ⟨rfl, trivial⟩
        · rw [if_neg hi5] at h
          cases h
    · rw [if_neg hi2] at h
      cases h
def b_Re_nextToken_81   (g : M2) : Option (M2 ⊕ M2) := (if (g.1 1 2) ≤ (g.1 1 3) then some (.inr g) else (if inb (g.1 1 3) 300 then (if (f_Re_isDigit (g.1 2 (g.1 1 3).toNatClampNeg) g) = 0 then some (.inr g) else (if inb (g.1 1 3) 300 then (bd (uI g 1 6 (f_Ma_min (1000 : Int32) ((((g.1 1 6) * (10 : Int32)) + (g.1 2 (g.1 1 3).toNatClampNeg)) - (48 : Int32)) g)) fun g27 => (bd (uI g27 1 3 ((g27.1 1 3) + (1 : Int32))) fun g28 => some (.inl g28))) else none)) else none))
theorem tb_Re_nextToken_81 {Lx : Nat}    (g : M2) {b : M2 ⊕ M2} {o : Option Value × M2} (h : b_Re_nextToken_81  g = some b) (hb : Sum.elim (fun s => Ev Lx 22 cd_22 81 [some (.ref 1)] [] s o) (fun e => Ev Lx 22 cd_22 134 [] [] e o) b) : Ev Lx 22 cd_22 81 [some (.ref 1)] [] g o := by
  unfold b_Re_nextToken_81 at h
  refine ev_rn (n := 4) (i2 := 85) (L2 := [some (.ref 1)]) (st2 := [.int (g.1 1 2), .int (g.1 1 3)]) (g2 := g) cdE_22 rfl ?_
  by_cases hc23 : (g.1 1 2) ≤ (g.1 1 3)
  · rw [if_pos hc23] at h
    refine ev_ift cdE_22 rfl (cn_t hc23) ?_
    cases h
    exact ev_wk (L := []) hb trivial
  · rw [if_neg hc23] at h
    refine ev_iff rfl (cn_f hc23) ?_
    refine ev_rn (n := 4) (i2 := 90) (L2 := [some (.ref 1)]) (st2 := [.int (g.1 1 3), .ref 2]) (g2 := g) cdE_22 rfl ?_
    by_cases hi24 : inb (g.1 1 3) 300
    · rw [if_pos hi24] at h
      refine ev_iaload (v := .int (g.1 2 (g.1 1 3).toNatClampNeg)) rfl (kd_of (show S0[2]? = some (100, 300, List.replicate 300 none) from rfl)) (by decide) hi24 rfl ?_
      refine ev_call rfl cdE_20 rfl rfl rfl (e_Re_isDigit (g.1 2 (g.1 1 3).toNatClampNeg)  g rfl) ?_
      by_cases hc25 : (f_Re_isDigit (g.1 2 (g.1 1 3).toNatClampNeg) g) = 0
      · rw [if_pos hc25] at h
        refine ev_zft cdE_22 rfl (cn_t hc25) ?_
        cases h
        exact ev_wk (L := []) hb trivial
      · rw [if_neg hc25] at h
        refine ev_zff rfl (cn_f hc25) ?_
        refine ev_rn (n := 10) (i2 := 103) (L2 := [some (.ref 1)]) (st2 := [.int (g.1 1 3), .ref 2, .int ((g.1 1 6) * (10 : Int32)), .int (1000 : Int32), .ref 1]) (g2 := g) cdE_22 rfl ?_
        by_cases hi26 : inb (g.1 1 3) 300
        · rw [if_pos hi26] at h
          refine ev_iaload (v := .int (g.1 2 (g.1 1 3).toNatClampNeg)) rfl (kd_of (show S0[2]? = some (100, 300, List.replicate 300 none) from rfl)) (by decide) hi26 rfl ?_
          refine ev_rn (n := 3) (i2 := 107) (L2 := [some (.ref 1)]) (st2 := [.int ((((g.1 1 6) * (10 : Int32)) + (g.1 2 (g.1 1 3).toNatClampNeg)) - (48 : Int32)), .int (1000 : Int32), .ref 1]) (g2 := g) cdE_22 rfl ?_
          refine ev_call rfl cdE_21 rfl rfl rfl (e_Ma_min (1000 : Int32) ((((g.1 1 6) * (10 : Int32)) + (g.1 2 (g.1 1 3).toNatClampNeg)) - (48 : Int32))  g rfl) ?_
          refine bd_elim h (fun g27 hg27 h => ?_)
          refine ev_pf (g2 := g27) rfl (rfl : S0[1]? = some _) (by decide) (by rw [hg27] <;> rfl) ?_
          refine ev_rn (n := 5) (i2 := 114) (L2 := [some (.ref 1)]) (st2 := [.int ((g27.1 1 3) + (1 : Int32)), .ref 1]) (g2 := g27) cdE_22 rfl ?_
          refine bd_elim h (fun g28 hg28 h => ?_)
          refine ev_pf (g2 := g28) rfl (rfl : S0[1]? = some _) (by decide) (by rw [hg28] <;> rfl) ?_
          refine ev_rn (n := 1) (i2 := 81) (L2 := [some (.ref 1)]) (st2 := []) (g2 := g28) cdE_22 rfl ?_
          cases h
          exact ev_wk (L := [some (.ref 1)]) hb ⟨rfl, trivial⟩
        · rw [if_neg hi26] at h
          cases h
    · rw [if_neg hi24] at h
      cases h
def b_Re_nextToken_52   (g : M2) : Option (M2 ⊕ M2) := (if (g.1 1 2) ≤ (g.1 1 3) then some (.inr g) else (if inb (g.1 1 3) 300 then (if (f_Re_isLetter (g.1 2 (g.1 1 3).toNatClampNeg) g) = 0 then some (.inr g) else (bd (uI g 1 3 ((g.1 1 3) + (1 : Int32))) fun g35 => some (.inl g35))) else none))
theorem tb_Re_nextToken_52 {Lx : Nat}    (g : M2) {b : M2 ⊕ M2} {o : Option Value × M2} (h : b_Re_nextToken_52  g = some b) (hb : Sum.elim (fun s => Ev Lx 22 cd_22 52 [some (.ref 1)] [] s o) (fun e => Ev Lx 22 cd_22 134 [] [] e o) b) : Ev Lx 22 cd_22 52 [some (.ref 1)] [] g o := by
  unfold b_Re_nextToken_52 at h
  refine ev_rn (n := 4) (i2 := 56) (L2 := [some (.ref 1)]) (st2 := [.int (g.1 1 2), .int (g.1 1 3)]) (g2 := g) cdE_22 rfl ?_
  by_cases hc32 : (g.1 1 2) ≤ (g.1 1 3)
  · rw [if_pos hc32] at h
    refine ev_ift cdE_22 rfl (cn_t hc32) ?_
    cases h
    exact ev_wk (L := []) hb trivial
  · rw [if_neg hc32] at h
    refine ev_iff rfl (cn_f hc32) ?_
    refine ev_rn (n := 4) (i2 := 61) (L2 := [some (.ref 1)]) (st2 := [.int (g.1 1 3), .ref 2]) (g2 := g) cdE_22 rfl ?_
    by_cases hi33 : inb (g.1 1 3) 300
    · rw [if_pos hi33] at h
      refine ev_iaload (v := .int (g.1 2 (g.1 1 3).toNatClampNeg)) rfl (kd_of (show S0[2]? = some (100, 300, List.replicate 300 none) from rfl)) (by decide) hi33 rfl ?_
      refine ev_call rfl cdE_19 rfl rfl rfl (e_Re_isLetter (g.1 2 (g.1 1 3).toNatClampNeg)  g rfl) ?_
      by_cases hc34 : (f_Re_isLetter (g.1 2 (g.1 1 3).toNatClampNeg) g) = 0
      · rw [if_pos hc34] at h
        refine ev_zft cdE_22 rfl (cn_t hc34) ?_
        cases h
        exact ev_wk (L := []) hb trivial
      · rw [if_neg hc34] at h
        refine ev_zff rfl (cn_f hc34) ?_
        refine ev_rn (n := 5) (i2 := 69) (L2 := [some (.ref 1)]) (st2 := [.int ((g.1 1 3) + (1 : Int32)), .ref 1]) (g2 := g) cdE_22 rfl ?_
        refine bd_elim h (fun g35 hg35 h => ?_)
        refine ev_pf (g2 := g35) rfl (rfl : S0[1]? = some _) (by decide) (by rw [hg35] <;> rfl) ?_
        refine ev_rn (n := 1) (i2 := 52) (L2 := [some (.ref 1)]) (st2 := []) (g2 := g35) cdE_22 rfl ?_
        cases h
        exact ev_wk (L := [some (.ref 1)]) hb ⟨rfl, trivial⟩
    · rw [if_neg hi33] at h
      cases h
def j_Re_nextToken_26  (g : M2) : Option (M2) := (bd (uI g 1 4 (g.1 1 3)) fun g9 => (bd (uI g9 1 6 (0 : Int32)) fun g10 => (if (g10.1 1 3) < (g10.1 1 2) then (if inb (g10.1 1 3) 300 then (if (f_Re_isLetter (g10.1 2 (g10.1 1 3).toNatClampNeg) g10) = 0 then (if inb (g10.1 1 3) 300 then (if (f_Re_isDigit (g10.1 2 (g10.1 1 3).toNatClampNeg) g10) = 0 then (if inb (g10.1 1 3) 300 then (if (g10.1 2 (g10.1 1 3).toNatClampNeg) = (59 : Int32) then (bd (uI g10 1 5 (3 : Int32)) fun g20 => (bd (uI g20 1 3 ((g20.1 1 3) + (1 : Int32))) fun g21 => some g21)) else (bd (uI g10 1 5 (4 : Int32)) fun g18 => (bd (uI g18 1 3 ((g18.1 1 3) + (1 : Int32))) fun g19 => some g19))) else none) else (bd (uI g10 1 5 (2 : Int32)) fun g22 => ((lp (fun s => b_Re_nextToken_81   s) 5000 g22).bind fun e29 => some e29))) else none) else (bd (uI g10 1 5 (1 : Int32)) fun g31 => ((lp (fun s => b_Re_nextToken_52   s) 5000 g31).bind fun e36 => some e36))) else none) else (bd (uI g10 1 5 (0 : Int32)) fun g38 => some g38))))
theorem tj_Re_nextToken_26 {Lx : Nat}    (g : M2) {b : M2} (h : j_Re_nextToken_26  g = some b) : Ev Lx 22 cd_22 26 [some (.ref 1)] [] g (none, b) := by
  unfold j_Re_nextToken_26 at h
  refine ev_rn (n := 3) (i2 := 29) (L2 := [some (.ref 1)]) (st2 := [.int (g.1 1 3), .ref 1]) (g2 := g) cdE_22 rfl ?_
  refine bd_elim h (fun g9 hg9 h => ?_)
  refine ev_pf (g2 := g9) rfl (rfl : S0[1]? = some _) (by decide) (by rw [hg9] <;> rfl) ?_
  refine ev_rn (n := 2) (i2 := 32) (L2 := [some (.ref 1)]) (st2 := [.int (0 : Int32), .ref 1]) (g2 := g9) cdE_22 rfl ?_
  refine bd_elim h (fun g10 hg10 h => ?_)
  refine ev_pf (g2 := g10) rfl (rfl : S0[1]? = some _) (by decide) (by rw [hg10] <;> rfl) ?_
  refine ev_rn (n := 4) (i2 := 37) (L2 := [some (.ref 1)]) (st2 := [.int (g10.1 1 2), .int (g10.1 1 3)]) (g2 := g10) cdE_22 rfl ?_
  by_cases hc11 : (g10.1 1 3) < (g10.1 1 2)
  · rw [if_pos hc11] at h
    refine ev_ift cdE_22 rfl (cn_t hc11) ?_
    refine ev_rn (n := 4) (i2 := 46) (L2 := [some (.ref 1)]) (st2 := [.int (g10.1 1 3), .ref 2]) (g2 := g10) cdE_22 rfl ?_
    by_cases hi12 : inb (g10.1 1 3) 300
    · rw [if_pos hi12] at h
      refine ev_iaload (v := .int (g10.1 2 (g10.1 1 3).toNatClampNeg)) rfl (kd_of (show S0[2]? = some (100, 300, List.replicate 300 none) from rfl)) (by decide) hi12 rfl ?_
      refine ev_call rfl cdE_19 rfl rfl rfl (e_Re_isLetter (g10.1 2 (g10.1 1 3).toNatClampNeg)  g10 rfl) ?_
      by_cases hc13 : (f_Re_isLetter (g10.1 2 (g10.1 1 3).toNatClampNeg) g10) = 0
      · rw [if_pos hc13] at h
        refine ev_zft cdE_22 rfl (cn_t hc13) ?_
        refine ev_rn (n := 4) (i2 := 75) (L2 := [some (.ref 1)]) (st2 := [.int (g10.1 1 3), .ref 2]) (g2 := g10) cdE_22 rfl ?_
        by_cases hi14 : inb (g10.1 1 3) 300
        · rw [if_pos hi14] at h
          refine ev_iaload (v := .int (g10.1 2 (g10.1 1 3).toNatClampNeg)) rfl (kd_of (show S0[2]? = some (100, 300, List.replicate 300 none) from rfl)) (by decide) hi14 rfl ?_
          refine ev_call rfl cdE_20 rfl rfl rfl (e_Re_isDigit (g10.1 2 (g10.1 1 3).toNatClampNeg)  g10 rfl) ?_
          by_cases hc15 : (f_Re_isDigit (g10.1 2 (g10.1 1 3).toNatClampNeg) g10) = 0
          · rw [if_pos hc15] at h
            refine ev_zft cdE_22 rfl (cn_t hc15) ?_
            refine ev_rn (n := 5) (i2 := 121) (L2 := [some (.ref 1)]) (st2 := [.int (g10.1 1 3), .ref 2, .ref 1]) (g2 := g10) cdE_22 rfl ?_
            by_cases hi16 : inb (g10.1 1 3) 300
            · rw [if_pos hi16] at h
              refine ev_iaload (v := .int (g10.1 2 (g10.1 1 3).toNatClampNeg)) rfl (kd_of (show S0[2]? = some (100, 300, List.replicate 300 none) from rfl)) (by decide) hi16 rfl ?_
              refine ev_rn (n := 1) (i2 := 123) (L2 := [some (.ref 1)]) (st2 := [.int (59 : Int32), .int (g10.1 2 (g10.1 1 3).toNatClampNeg), .ref 1]) (g2 := g10) cdE_22 rfl ?_
              by_cases hc17 : (g10.1 2 (g10.1 1 3).toNatClampNeg) = (59 : Int32)
              · rw [if_pos hc17] at h
                refine ev_iff rfl (cn_f (fun q => q hc17)) ?_
                refine ev_rn (n := 2) (i2 := 127) (L2 := [some (.ref 1)]) (st2 := [.int (3 : Int32), .ref 1]) (g2 := g10) cdE_22 rfl ?_
                refine bd_elim h (fun g20 hg20 h => ?_)
                refine ev_pf (g2 := g20) rfl (rfl : S0[1]? = some _) (by decide) (by rw [hg20] <;> rfl) ?_
                refine ev_rn (n := 5) (i2 := 133) (L2 := [some (.ref 1)]) (st2 := [.int ((g20.1 1 3) + (1 : Int32)), .ref 1]) (g2 := g20) cdE_22 rfl ?_
                refine bd_elim h (fun g21 hg21 h => ?_)
                refine ev_pf (g2 := g21) rfl (rfl : S0[1]? = some _) (by decide) (by rw [hg21] <;> rfl) ?_
                cases h
                exact ev_ret rfl rfl
              · rw [if_neg hc17] at h
                refine ev_ift cdE_22 rfl (cn_t hc17) ?_
                refine ev_rn (n := 1) (i2 := 127) (L2 := [some (.ref 1)]) (st2 := [.int (4 : Int32), .ref 1]) (g2 := g10) cdE_22 rfl ?_
                refine bd_elim h (fun g18 hg18 h => ?_)
                refine ev_pf (g2 := g18) rfl (rfl : S0[1]? = some _) (by decide) (by rw [hg18] <;> rfl) ?_
                refine ev_rn (n := 5) (i2 := 133) (L2 := [some (.ref 1)]) (st2 := [.int ((g18.1 1 3) + (1 : Int32)), .ref 1]) (g2 := g18) cdE_22 rfl ?_
                refine bd_elim h (fun g19 hg19 h => ?_)
                refine ev_pf (g2 := g19) rfl (rfl : S0[1]? = some _) (by decide) (by rw [hg19] <;> rfl) ?_
                cases h
                exact ev_ret rfl rfl
            · rw [if_neg hi16] at h
              cases h
          · rw [if_neg hc15] at h
            refine ev_zff rfl (cn_f hc15) ?_
            refine ev_rn (n := 2) (i2 := 80) (L2 := [some (.ref 1)]) (st2 := [.int (2 : Int32), .ref 1]) (g2 := g10) cdE_22 rfl ?_
            refine bd_elim h (fun g22 hg22 h => ?_)
            refine ev_pf (g2 := g22) rfl (rfl : S0[1]? = some _) (by decide) (by rw [hg22] <;> rfl) ?_
            obtain ⟨e29, he29, h⟩ := Option.bind_eq_some_iff.mp h
            have hX30 : Ev Lx 22 cd_22 134 [] [] e29 (none, b) := by
              cases h
              exact ev_ret rfl rfl
            exact ev_wk (L := [some (.ref 1)]) (lp_ind (P := (fun (s : M2) => Ev Lx 22 cd_22 81 [some (.ref 1)] [] s (none, b))) (fun s s2 hs hP => tb_Re_nextToken_81    s (b := .inl s2) hs hP) (fun s hs => tb_Re_nextToken_81    s (b := .inr e29) hs hX30) _ _ he29) ⟨rfl, trivial⟩
        · rw [if_neg hi14] at h
          cases h
      · rw [if_neg hc13] at h
        refine ev_zff rfl (cn_f hc13) ?_
        refine ev_rn (n := 2) (i2 := 51) (L2 := [some (.ref 1)]) (st2 := [.int (1 : Int32), .ref 1]) (g2 := g10) cdE_22 rfl ?_
        refine bd_elim h (fun g31 hg31 h => ?_)
        refine ev_pf (g2 := g31) rfl (rfl : S0[1]? = some _) (by decide) (by rw [hg31] <;> rfl) ?_
        obtain ⟨e36, he36, h⟩ := Option.bind_eq_some_iff.mp h
        have hX37 : Ev Lx 22 cd_22 134 [] [] e36 (none, b) := by
          cases h
          exact ev_ret rfl rfl
        exact ev_wk (L := [some (.ref 1)]) (lp_ind (P := (fun (s : M2) => Ev Lx 22 cd_22 52 [some (.ref 1)] [] s (none, b))) (fun s s2 hs hP => tb_Re_nextToken_52    s (b := .inl s2) hs hP) (fun s hs => tb_Re_nextToken_52    s (b := .inr e36) hs hX37) _ _ he36) ⟨rfl, trivial⟩
    · rw [if_neg hi12] at h
      cases h
  · rw [if_neg hc11] at h
    refine ev_iff rfl (cn_f hc11) ?_
    refine ev_rn (n := 2) (i2 := 40) (L2 := [some (.ref 1)]) (st2 := [.int (0 : Int32), .ref 1]) (g2 := g10) cdE_22 rfl ?_
    refine bd_elim h (fun g38 hg38 h => ?_)
    refine ev_pf (g2 := g38) rfl (rfl : S0[1]? = some _) (by decide) (by rw [hg38] <;> rfl) ?_
    refine ev_rn (n := 1) (i2 := 134) (L2 := [some (.ref 1)]) (st2 := []) (g2 := g38) cdE_22 rfl ?_
    cases h
    exact ev_ret rfl rfl
def f_Re_nextToken  (g : M2) : Option (M2) := ((lp (fun s => b_Re_nextToken_0   s) 5000 g).bind fun e8 => (j_Re_nextToken_26  e8))
theorem e_Re_nextToken {Lx : Nat}   (g : M2) {b : M2} (h : f_Re_nextToken  g = some b) : Ev Lx 22 cd_22 0 [some (.ref 1)] [] g (none, b) := by
  unfold f_Re_nextToken at h
  obtain ⟨e8, he8, h⟩ := Option.bind_eq_some_iff.mp h
  have hX39 : Ev Lx 22 cd_22 26 [some (.ref 1)] [] e8 (none, b) := by
    exact ev_wk (L := [some (.ref 1)]) (tj_Re_nextToken_26    e8 h) ⟨rfl, trivial⟩
  exact ev_wk (L := [some (.ref 1)]) (lp_ind (P := (fun (s : M2) => Ev Lx 22 cd_22 0 [some (.ref 1)] [] s (none, b))) (fun s s2 hs hP => tb_Re_nextToken_0    s (b := .inl s2) hs hP) (fun s hs => tb_Re_nextToken_0    s (b := .inr e8) hs hX39) _ _ he8) ⟨rfl, trivial⟩
def b_Re_isWord_17 (v1 : Nat) (v2 : Int32) (g : M2) : Option (Int32 ⊕ (Unit ⊕ Int32)) := (if (g.1 1 3) ≤ v2 then some (.inr (.inl ())) else (if inb v2 300 then (if inb (v2 - (g.1 1 4)) (mm_tx v1).length then (if (g.1 2 v2.toNatClampNeg) = (nI ((mm_tx v1).getD (v2 - (g.1 1 4)).toNatClampNeg 0)) then some (.inl (v2 + (1 : Int32))) else some (.inr (.inr (0 : Int32)))) else none) else none))
theorem tb_Re_isWord_17 {Lx : Nat} (v1 : Nat) (hv1 : IsStr v1) (v2 : Int32) (g : M2) {b : Int32 ⊕ (Unit ⊕ Int32)} {o : Option Value × M2} (h : b_Re_isWord_17 v1 v2 g = some b) (hb : Sum.elim (fun s => Ev Lx 23 cd_23 17 [some (.ref 1), some (.ref v1), some (.int s)] [] g o) (Sum.elim (fun e => Ev Lx 23 cd_23 36 [] [] g o) (fun r => o = (some (.int r), g))) b) : Ev Lx 23 cd_23 17 [some (.ref 1), some (.ref v1), some (.int v2)] [] g o := by
  unfold b_Re_isWord_17 at h
  refine ev_rn (n := 3) (i2 := 20) (L2 := [some (.ref 1), some (.ref v1), some (.int v2)]) (st2 := [.int (g.1 1 3), .int v2]) (g2 := g) cdE_23 rfl ?_
  by_cases hc3 : (g.1 1 3) ≤ v2
  · rw [if_pos hc3] at h
    refine ev_ift cdE_23 rfl (cn_t hc3) ?_
    cases h
    exact ev_wk (L := []) hb trivial
  · rw [if_neg hc3] at h
    refine ev_iff rfl (cn_f hc3) ?_
    refine ev_rn (n := 3) (i2 := 24) (L2 := [some (.ref 1), some (.ref v1), some (.int v2)]) (st2 := [.int v2, .ref 2]) (g2 := g) cdE_23 rfl ?_
    by_cases hi4 : inb v2 300
    · rw [if_pos hi4] at h
      refine ev_iaload (v := .int (g.1 2 v2.toNatClampNeg)) rfl (kd_of (show S0[2]? = some (100, 300, List.replicate 300 none) from rfl)) (by decide) hi4 rfl ?_
      refine ev_rn (n := 5) (i2 := 30) (L2 := [some (.ref 1), some (.ref v1), some (.int v2)]) (st2 := [.int (v2 - (g.1 1 4)), .ref v1, .int (g.1 2 v2.toNatClampNeg)]) (g2 := g) cdE_23 rfl ?_
      by_cases hs5 : inb (v2 - (g.1 1 4)) (mm_tx v1).length
      · rw [if_pos hs5] at h
        refine ev_sc rfl hv1 hs5 ?_
        by_cases hc6 : (g.1 2 v2.toNatClampNeg) = (nI ((mm_tx v1).getD (v2 - (g.1 1 4)).toNatClampNeg 0))
        · rw [if_pos hc6] at h
          refine ev_ift cdE_23 rfl (cn_t hc6) ?_
          refine ev_rn (n := 2) (i2 := 17) (L2 := [some (.ref 1), some (.ref v1), some (.int (v2 + (1 : Int32)))]) (st2 := []) (g2 := g) cdE_23 rfl ?_
          cases h
          exact ev_wk (L := [some (.ref 1), some (.ref v1), some (.int (v2 + (1 : Int32)))]) hb ⟨rfl, ⟨rfl, ⟨rfl, trivial⟩⟩⟩
        · rw [if_neg hc6] at h
          refine ev_iff rfl (cn_f hc6) ?_
          refine ev_rn (n := 1) (i2 := 33) (L2 := [some (.ref 1), some (.ref v1), some (.int v2)]) (st2 := [.int (0 : Int32)]) (g2 := g) cdE_23 rfl ?_
          cases h
          cases hb
          exact ev_ret rfl rt_0
      · rw [if_neg hs5] at h
        cases h
    · rw [if_neg hi4] at h
      cases h
def f_Re_isWord (p0 : Nat) (g : M2) : Option (Int32) := (if (g.1 1 5) = (1 : Int32) then (if ((g.1 1 3) - (g.1 1 4)) = (nI (mm_tx p0).length) then ((lp (fun s => b_Re_isWord_17 p0 s g) 5000 (g.1 1 4)).bind fun ue7 => Sum.elim (fun e7 => some (1 : Int32)) (fun re7 => some re7) ue7) else some (0 : Int32)) else some (0 : Int32))
theorem e_Re_isWord {Lx : Nat} (p0 : Nat) (hp0 : IsStr p0) (g : M2) {b : Int32} (h : f_Re_isWord p0 g = some b) : Ev Lx 23 cd_23 0 [some (.ref 1), some (.ref p0)] [] g (some (.int b), g) := by
  unfold f_Re_isWord at h
  refine ev_rn (n := 3) (i2 := 3) (L2 := [some (.ref 1), some (.ref p0)]) (st2 := [.int (1 : Int32), .int (g.1 1 5)]) (g2 := g) cdE_23 rfl ?_
  by_cases hc1 : (g.1 1 5) = (1 : Int32)
  · rw [if_pos hc1] at h
    refine ev_iff rfl (cn_f (fun q => q hc1)) ?_
    refine ev_rn (n := 6) (i2 := 10) (L2 := [some (.ref 1), some (.ref p0)]) (st2 := [.ref p0, .int ((g.1 1 3) - (g.1 1 4))]) (g2 := g) cdE_23 rfl ?_
    refine ev_sl rfl hp0 ?_
    by_cases hc2 : ((g.1 1 3) - (g.1 1 4)) = (nI (mm_tx p0).length)
    · rw [if_pos hc2] at h
      refine ev_ift cdE_23 rfl (cn_t hc2) ?_
      refine ev_rn (n := 3) (i2 := 17) (L2 := [some (.ref 1), some (.ref p0), some (.int (g.1 1 4))]) (st2 := []) (g2 := g) cdE_23 rfl ?_
      obtain ⟨ue7, he7, h⟩ := Option.bind_eq_some_iff.mp h
      cases ue7 with
      | inl e7 =>
        replace h := h
        have hX8 : Ev Lx 23 cd_23 36 [] [] g (some (.int b), g) := by
          simp only [Sum.elim_inl] at h
          refine ev_rn (n := 1) (i2 := 37) (L2 := []) (st2 := [.int (1 : Int32)]) (g2 := g) cdE_23 rfl ?_
          cases h
          exact ev_ret rfl rt_1
        exact ev_wk (L := [some (.ref 1), some (.ref p0), some (.int (g.1 1 4))]) (lp_ind (P := (fun (s : Int32) => Ev Lx 23 cd_23 17 [some (.ref 1), some (.ref p0), some (.int s)] [] g (some (.int b), g))) (fun s s2 hs hP => tb_Re_isWord_17 p0 hp0 s g (b := .inl s2) hs hP) (fun s hs => tb_Re_isWord_17 p0 hp0 s g (b := .inr (.inl e7)) hs hX8) _ _ he7) ⟨rfl, ⟨rfl, ⟨rfl, trivial⟩⟩⟩
      | inr re7 =>
        simp only [Sum.elim_inr] at h
        cases h
        exact ev_wk (L := [some (.ref 1), some (.ref p0), some (.int (g.1 1 4))]) (lp_ind (P := (fun (s : Int32) => Ev Lx 23 cd_23 17 [some (.ref 1), some (.ref p0), some (.int s)] [] g (some (.int b), g))) (fun s s2 hs hP => tb_Re_isWord_17 p0 hp0 s g (b := .inl s2) hs hP) (fun s hs => tb_Re_isWord_17 p0 hp0 s g (b := .inr (.inr b)) hs rfl) _ _ he7) ⟨rfl, ⟨rfl, ⟨rfl, trivial⟩⟩⟩
    · rw [if_neg hc2] at h
      refine ev_iff rfl (cn_f hc2) ?_
      refine ev_rn (n := 1) (i2 := 13) (L2 := [some (.ref 1), some (.ref p0)]) (st2 := [.int (0 : Int32)]) (g2 := g) cdE_23 rfl ?_
      cases h
      exact ev_ret rfl rt_0
  · rw [if_neg hc1] at h
    refine ev_ift cdE_23 rfl (cn_t hc1) ?_
    refine ev_rn (n := 1) (i2 := 13) (L2 := [some (.ref 1), some (.ref p0)]) (st2 := [.int (0 : Int32)]) (g2 := g) cdE_23 rfl ?_
    cases h
    exact ev_ret rfl rt_0
