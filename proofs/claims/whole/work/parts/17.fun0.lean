def b_Re_take_2 (v1 : Int32) (v2 : Int32) (g : M2) : Option ((Int32 × M2) ⊕ M2) := (if v2 < 0 then some (.inr g) else (if (300 : Int32) ≤ (g.1 1 2) then some (.inr g) else (if inb (g.1 1 2) 300 then (bd (uI g 2 (g.1 1 2).toNatClampNeg ((v1 >>> (v2 &&& 31)) &&& (255 : Int32))) fun g3 => (bd (uI g3 1 2 ((g3.1 1 2) + (1 : Int32))) fun g4 => some (.inl ((v2 + (-8 : Int32)), g4)))) else none)))
theorem tb_Re_take_2 {Lx : Nat} (v1 : Int32)  (v2 : Int32) (g : M2) {b : (Int32 × M2) ⊕ M2} {o : Option Value × M2} (h : b_Re_take_2 v1 v2 g = some b) (hb : Sum.elim (fun s => Ev Lx 12 cd_12 2 [some (.ref 1), some (.int v1), some (.int s.1)] [] s.2 o) (fun e => Ev Lx 12 cd_12 26 [] [] e o) b) : Ev Lx 12 cd_12 2 [some (.ref 1), some (.int v1), some (.int v2)] [] g o := by
  unfold b_Re_take_2 at h
  refine ev_rn (n := 1) (i2 := 3) (L2 := [some (.ref 1), some (.int v1), some (.int v2)]) (st2 := [.int v2]) (g2 := g) cdE_12 rfl ?_
  by_cases hc1 : v2 < 0
  · rw [if_pos hc1] at h
    refine ev_zft cdE_12 rfl (cn_t hc1) ?_
    cases h
    exact ev_wk (L := []) hb trivial
  · rw [if_neg hc1] at h
    refine ev_zff rfl (cn_f hc1) ?_
    refine ev_rn (n := 3) (i2 := 7) (L2 := [some (.ref 1), some (.int v1), some (.int v2)]) (st2 := [.int (300 : Int32), .int (g.1 1 2)]) (g2 := g) cdE_12 rfl ?_
    by_cases hc2 : (300 : Int32) ≤ (g.1 1 2)
    · rw [if_pos hc2] at h
      refine ev_ift cdE_12 rfl (cn_t hc2) ?_
      cases h
      exact ev_wk (L := []) hb trivial
    · rw [if_neg hc2] at h
      refine ev_iff rfl (cn_f hc2) ?_
      refine ev_rn (n := 9) (i2 := 17) (L2 := [some (.ref 1), some (.int v1), some (.int v2)]) (st2 := [.int ((v1 >>> (v2 &&& 31)) &&& (255 : Int32)), .int (g.1 1 2), .ref 2]) (g2 := g) cdE_12 rfl ?_
      by_cases hi5 : inb (g.1 1 2) 300
      · rw [if_pos hi5] at h
        refine bd_elim h (fun g3 hg3 h => ?_)
        refine ev_iastore (g2 := g3) rfl (show S0[2]? = some (100, 300, List.replicate 300 none) from rfl) (by decide) hi5 (by rw [hg3] <;> rfl) ?_
        refine ev_rn (n := 5) (i2 := 23) (L2 := [some (.ref 1), some (.int v1), some (.int v2)]) (st2 := [.int ((g3.1 1 2) + (1 : Int32)), .ref 1]) (g2 := g3) cdE_12 rfl ?_
        refine bd_elim h (fun g4 hg4 h => ?_)
        refine ev_pf (g2 := g4) rfl (rfl : S0[1]? = some _) (by decide) (by rw [hg4] <;> rfl) ?_
        refine ev_rn (n := 2) (i2 := 2) (L2 := [some (.ref 1), some (.int v1), some (.int (v2 + (-8 : Int32)))]) (st2 := []) (g2 := g4) cdE_12 rfl ?_
        cases h
        exact ev_wk (L := [some (.ref 1), some (.int v1), some (.int (v2 + (-8 : Int32)))]) hb ⟨rfl, ⟨rfl, ⟨rfl, trivial⟩⟩⟩
      · rw [if_neg hi5] at h
        cases h
def f_Re_take (p0 : Int32) (g : M2) : Option (M2) := ((lp (fun s => b_Re_take_2 p0 s.1 s.2) 5000 ((24 : Int32), g)).bind fun e6 => some e6)
theorem e_Re_take {Lx : Nat} (p0 : Int32)  (g : M2) {b : M2} (h : f_Re_take p0 g = some b) : Ev Lx 12 cd_12 0 [some (.ref 1), some (.int p0)] [] g (none, b) := by
  unfold f_Re_take at h
  refine ev_rn (n := 2) (i2 := 2) (L2 := [some (.ref 1), some (.int p0), some (.int (24 : Int32))]) (st2 := []) (g2 := g) cdE_12 rfl ?_
  obtain ⟨e6, he6, h⟩ := Option.bind_eq_some_iff.mp h
  have hX7 : Ev Lx 12 cd_12 26 [] [] e6 (none, b) := by
    cases h
    exact ev_ret rfl rfl
  exact ev_wk (L := [some (.ref 1), some (.int p0), some (.int (24 : Int32))]) (lp_ind (P := (fun (s : (Int32 × M2)) => Ev Lx 12 cd_12 2 [some (.ref 1), some (.int p0), some (.int s.1)] [] s.2 (none, b))) (fun s s2 hs hP => tb_Re_take_2 p0  s.1 s.2 (b := .inl s2) hs hP) (fun s hs => tb_Re_take_2 p0  s.1 s.2 (b := .inr e6) hs hX7) _ _ he6) ⟨rfl, ⟨rfl, ⟨rfl, trivial⟩⟩⟩
def f_Da_feed (p0 : Int32) (p1 : Int32) (p2 : Int32) (p3 : Int32) (p4 : Int32) (g : M2) : Option (Int32 × M2) := (if ((g.1 1 2) + (20 : Int32)) ≤ (300 : Int32) then ((f_Re_take p0 g).bind fun q2 => ((f_Re_take p1 q2).bind fun q3 => ((f_Re_take p2 q3).bind fun q4 => ((f_Re_take p3 q4).bind fun q5 => ((f_Re_take p4 q5).bind fun q6 => some ((q6.1 1 2), q6)))))) else some ((-1 : Int32), g))
theorem e_Da_feed {Lx : Nat} (p0 : Int32) (p1 : Int32) (p2 : Int32) (p3 : Int32) (p4 : Int32)  (g : M2) {b : (Int32 × M2)} (h : f_Da_feed p0 p1 p2 p3 p4 g = some b) : Ev Lx 13 cd_13 0 [some (.ref 0), some (.int p0), some (.int p1), some (.int p2), some (.int p3), some (.int p4)] [] g (some (.int b.1), b.2) := by
  unfold f_Da_feed at h
  refine ev_rn (n := 6) (i2 := 6) (L2 := [some (.ref 0), some (.int p0), some (.int p1), some (.int p2), some (.int p3), some (.int p4)]) (st2 := [.int (300 : Int32), .int ((g.1 1 2) + (20 : Int32))]) (g2 := g) cdE_13 rfl ?_
  by_cases hc1 : ((g.1 1 2) + (20 : Int32)) ≤ (300 : Int32)
  · rw [if_pos hc1] at h
    refine ev_ift cdE_13 rfl (cn_t hc1) ?_
    refine ev_rn (n := 3) (i2 := 12) (L2 := [some (.ref 0), some (.int p0), some (.int p1), some (.int p2), some (.int p3), some (.int p4)]) (st2 := [.int p0, .ref 1]) (g2 := g) cdE_13 rfl ?_
    obtain ⟨q2, hq2, h⟩ := Option.bind_eq_some_iff.mp h
    refine ev_call rfl cdE_12 rfl rfl rfl (e_Re_take p0  g hq2) ?_
    refine ev_rn (n := 3) (i2 := 16) (L2 := [some (.ref 0), some (.int p0), some (.int p1), some (.int p2), some (.int p3), some (.int p4)]) (st2 := [.int p1, .ref 1]) (g2 := q2) cdE_13 rfl ?_
    obtain ⟨q3, hq3, h⟩ := Option.bind_eq_some_iff.mp h
    refine ev_call rfl cdE_12 rfl rfl rfl (e_Re_take p1  q2 hq3) ?_
    refine ev_rn (n := 3) (i2 := 20) (L2 := [some (.ref 0), some (.int p0), some (.int p1), some (.int p2), some (.int p3), some (.int p4)]) (st2 := [.int p2, .ref 1]) (g2 := q3) cdE_13 rfl ?_
    obtain ⟨q4, hq4, h⟩ := Option.bind_eq_some_iff.mp h
    refine ev_call rfl cdE_12 rfl rfl rfl (e_Re_take p2  q3 hq4) ?_
    refine ev_rn (n := 3) (i2 := 24) (L2 := [some (.ref 0), some (.int p0), some (.int p1), some (.int p2), some (.int p3), some (.int p4)]) (st2 := [.int p3, .ref 1]) (g2 := q4) cdE_13 rfl ?_
    obtain ⟨q5, hq5, h⟩ := Option.bind_eq_some_iff.mp h
    refine ev_call rfl cdE_12 rfl rfl rfl (e_Re_take p3  q4 hq5) ?_
    refine ev_rn (n := 3) (i2 := 28) (L2 := [some (.ref 0), some (.int p0), some (.int p1), some (.int p2), some (.int p3), some (.int p4)]) (st2 := [.int p4, .ref 1]) (g2 := q5) cdE_13 rfl ?_
    obtain ⟨q6, hq6, h⟩ := Option.bind_eq_some_iff.mp h
    refine ev_call rfl cdE_12 rfl rfl rfl (e_Re_take p4  q5 hq6) ?_
    refine ev_rn (n := 3) (i2 := 32) (L2 := [some (.ref 0), some (.int p0), some (.int p1), some (.int p2), some (.int p3), some (.int p4)]) (st2 := [.int (q6.1 1 2)]) (g2 := q6) cdE_13 rfl ?_
    cases h
    exact ev_ret rfl rfl
  · rw [if_neg hc1] at h
    refine ev_iff rfl (cn_f hc1) ?_
    refine ev_rn (n := 1) (i2 := 8) (L2 := [some (.ref 0), some (.int p0), some (.int p1), some (.int p2), some (.int p3), some (.int p4)]) (st2 := [.int (-1 : Int32)]) (g2 := g) cdE_13 rfl ?_
    cases h
    exact ev_ret rfl rfl
def b_Mo_feed_35  (v6 : Int32) (g : M2) : Option ((Int32 × M2) ⊕ M2) := (if (20 : Int32) ≤ v6 then some (.inr g) else (if inb (v6 / (4 : Int32)) 5 then (if inb ((g.1 157 21) + v6) 300 then (bd (uI g 167 ((g.1 157 21) + v6).toNatClampNeg ((g.1 168 (v6 / (4 : Int32)).toNatClampNeg) >>> (((24 : Int32) - ((8 : Int32) * (v6 - v6 / (4 : Int32) * (4 : Int32)))) &&& 31)).toInt8.toInt32.toInt8.toInt32) fun g9 => some (.inl ((v6 + (1 : Int32)), g9))) else none) else none))
theorem tb_Mo_feed_35 {Lx : Nat}   (v6 : Int32) (g : M2) {b : (Int32 × M2) ⊕ M2} {o : Option Value × M2} (h : b_Mo_feed_35 v6 g = some b) (hb : Sum.elim (fun s => Ev Lx 14 cd_14 35 [some (.ref 157), none, none, none, none, none, some (.int s.1)] [] s.2 o) (fun e => Ev Lx 14 cd_14 62 [some (.ref 157)] [] e o) b) : Ev Lx 14 cd_14 35 [some (.ref 157), none, none, none, none, none, some (.int v6)] [] g o := by
  unfold b_Mo_feed_35 at h
  refine ev_rn (n := 2) (i2 := 37) (L2 := [some (.ref 157), none, none, none, none, none, some (.int v6)]) (st2 := [.int (20 : Int32), .int v6]) (g2 := g) cdE_14 rfl ?_
  by_cases hc7 : (20 : Int32) ≤ v6
  · rw [if_pos hc7] at h
    refine ev_ift cdE_14 rfl (cn_t hc7) ?_
    cases h
    exact ev_wk (L := [some (.ref 157)]) hb ⟨rfl, trivial⟩
  · rw [if_neg hc7] at h
    refine ev_iff rfl (cn_f hc7) ?_
    refine ev_rn (n := 10) (i2 := 48) (L2 := [some (.ref 157), none, none, none, none, none, some (.int v6)]) (st2 := [.int (4 : Int32), .int v6, .ref 168, .int ((g.1 157 21) + v6), .ref 167]) (g2 := g) cdE_14 rfl ?_
    refine ev_idiv rfl (by decide) ?_
    by_cases hi8 : inb (v6 / (4 : Int32)) 5
    · rw [if_pos hi8] at h
      refine ev_iaload (v := .int (g.1 168 (v6 / (4 : Int32)).toNatClampNeg)) rfl (kd_of (show S0[168]? = some (100, 5, List.replicate 5 none) from rfl)) (by decide) hi8 rfl ?_
      refine ev_rn (n := 4) (i2 := 54) (L2 := [some (.ref 157), none, none, none, none, none, some (.int v6)]) (st2 := [.int (4 : Int32), .int v6, .int (8 : Int32), .int (24 : Int32), .int (g.1 168 (v6 / (4 : Int32)).toNatClampNeg), .int ((g.1 157 21) + v6), .ref 167]) (g2 := g) cdE_14 rfl ?_
      refine ev_irem rfl (by decide) ?_
      refine ev_rn (n := 4) (i2 := 59) (L2 := [some (.ref 157), none, none, none, none, none, some (.int v6)]) (st2 := [.int ((g.1 168 (v6 / (4 : Int32)).toNatClampNeg) >>> (((24 : Int32) - ((8 : Int32) * (v6 - v6 / (4 : Int32) * (4 : Int32)))) &&& 31)).toInt8.toInt32, .int ((g.1 157 21) + v6), .ref 167]) (g2 := g) cdE_14 rfl ?_
      by_cases hi10 : inb ((g.1 157 21) + v6) 300
      · rw [if_pos hi10] at h
        refine bd_elim h (fun g9 hg9 h => ?_)
        refine ev_bastore (g2 := g9) rfl (show S0[167]? = some (102, 300, List.replicate 300 none) from rfl) (by decide) hi10 (by rw [hg9] <;> rfl) ?_
        refine ev_rn (n := 2) (i2 := 35) (L2 := [some (.ref 157), none, none, none, none, none, some (.int (v6 + (1 : Int32)))]) (st2 := []) (g2 := g9) cdE_14 rfl ?_
        cases h
        exact ev_wk (L := [some (.ref 157), none, none, none, none, none, some (.int (v6 + (1 : Int32)))]) hb ⟨rfl, ⟨rfl, trivial⟩⟩
      · rw [if_neg hi10] at h
        cases h
    · rw [if_neg hi8] at h
      cases h
def f_Mo_feed (p0 : Int32) (p1 : Int32) (p2 : Int32) (p3 : Int32) (p4 : Int32) (g : M2) : Option (Int32 × M2) := (if ((g.1 157 21) + (20 : Int32)) ≤ (300 : Int32) then (bd (uI g 168 0 p0) fun g2 => (bd (uI g2 168 1 p1) fun g3 => (bd (uI g3 168 2 p2) fun g4 => (bd (uI g4 168 3 p3) fun g5 => (bd (uI g5 168 4 p4) fun g6 => ((lp (fun s => b_Mo_feed_35  s.1 s.2) 5000 ((0 : Int32), g6)).bind fun e11 => (bd (uI e11 157 21 ((e11.1 157 21) + (20 : Int32))) fun g12 => some ((g12.1 157 21), g12)))))))) else some ((-1 : Int32), g))
theorem e_Mo_feed {Lx : Nat} (p0 : Int32) (p1 : Int32) (p2 : Int32) (p3 : Int32) (p4 : Int32)  (g : M2) {b : (Int32 × M2)} (h : f_Mo_feed p0 p1 p2 p3 p4 g = some b) : Ev Lx 14 cd_14 0 [some (.ref 157), some (.int p0), some (.int p1), some (.int p2), some (.int p3), some (.int p4)] [] g (some (.int b.1), b.2) := by
  unfold f_Mo_feed at h
  refine ev_rn (n := 5) (i2 := 5) (L2 := [some (.ref 157), some (.int p0), some (.int p1), some (.int p2), some (.int p3), some (.int p4)]) (st2 := [.int (300 : Int32), .int ((g.1 157 21) + (20 : Int32))]) (g2 := g) cdE_14 rfl ?_
  by_cases hc1 : ((g.1 157 21) + (20 : Int32)) ≤ (300 : Int32)
  · rw [if_pos hc1] at h
    refine ev_ift cdE_14 rfl (cn_t hc1) ?_
    refine ev_rn (n := 4) (i2 := 12) (L2 := [some (.ref 157), some (.int p0), some (.int p1), some (.int p2), some (.int p3), some (.int p4)]) (st2 := [.int p0, .int (0 : Int32), .ref 168]) (g2 := g) cdE_14 rfl ?_
    refine bd_elim h (fun g2 hg2 h => ?_)
    refine ev_iastore (g2 := g2) rfl (show S0[168]? = some (100, 5, List.replicate 5 none) from rfl) (by decide) ⟨by decide, by decide⟩ (by rw [hg2] <;> rfl) ?_
    refine ev_rn (n := 4) (i2 := 17) (L2 := [some (.ref 157), some (.int p0), some (.int p1), some (.int p2), some (.int p3), some (.int p4)]) (st2 := [.int p1, .int (1 : Int32), .ref 168]) (g2 := g2) cdE_14 rfl ?_
    refine bd_elim h (fun g3 hg3 h => ?_)
    refine ev_iastore (g2 := g3) rfl (show S0[168]? = some (100, 5, List.replicate 5 none) from rfl) (by decide) ⟨by decide, by decide⟩ (by rw [hg3] <;> rfl) ?_
    refine ev_rn (n := 4) (i2 := 22) (L2 := [some (.ref 157), some (.int p0), some (.int p1), some (.int p2), some (.int p3), some (.int p4)]) (st2 := [.int p2, .int (2 : Int32), .ref 168]) (g2 := g3) cdE_14 rfl ?_
    refine bd_elim h (fun g4 hg4 h => ?_)
    refine ev_iastore (g2 := g4) rfl (show S0[168]? = some (100, 5, List.replicate 5 none) from rfl) (by decide) ⟨by decide, by decide⟩ (by rw [hg4] <;> rfl) ?_
    refine ev_rn (n := 4) (i2 := 27) (L2 := [some (.ref 157), some (.int p0), some (.int p1), some (.int p2), some (.int p3), some (.int p4)]) (st2 := [.int p3, .int (3 : Int32), .ref 168]) (g2 := g4) cdE_14 rfl ?_
    refine bd_elim h (fun g5 hg5 h => ?_)
    refine ev_iastore (g2 := g5) rfl (show S0[168]? = some (100, 5, List.replicate 5 none) from rfl) (by decide) ⟨by decide, by decide⟩ (by rw [hg5] <;> rfl) ?_
    refine ev_rn (n := 4) (i2 := 32) (L2 := [some (.ref 157), some (.int p0), some (.int p1), some (.int p2), some (.int p3), some (.int p4)]) (st2 := [.int p4, .int (4 : Int32), .ref 168]) (g2 := g5) cdE_14 rfl ?_
    refine bd_elim h (fun g6 hg6 h => ?_)
    refine ev_iastore (g2 := g6) rfl (show S0[168]? = some (100, 5, List.replicate 5 none) from rfl) (by decide) ⟨by decide, by decide⟩ (by rw [hg6] <;> rfl) ?_
    refine ev_rn (n := 2) (i2 := 35) (L2 := [some (.ref 157), some (.int p0), some (.int p1), some (.int p2), some (.int p3), some (.int p4), some (.int (0 : Int32))]) (st2 := []) (g2 := g6) cdE_14 rfl ?_
    obtain ⟨e11, he11, h⟩ := Option.bind_eq_some_iff.mp h
    have hX13 : Ev Lx 14 cd_14 62 [some (.ref 157)] [] e11 (some (.int b.1), b.2) := by
      refine ev_rn (n := 5) (i2 := 67) (L2 := [some (.ref 157)]) (st2 := [.int ((e11.1 157 21) + (20 : Int32)), .ref 157]) (g2 := e11) cdE_14 rfl ?_
      refine bd_elim h (fun g12 hg12 h => ?_)
      refine ev_pf (g2 := g12) rfl (rfl : S0[157]? = some _) (by decide) (by rw [hg12] <;> rfl) ?_
      refine ev_rn (n := 2) (i2 := 70) (L2 := [some (.ref 157)]) (st2 := [.int (g12.1 157 21)]) (g2 := g12) cdE_14 rfl ?_
      cases h
      exact ev_ret rfl rfl
    exact ev_wk (L := [some (.ref 157), none, none, none, none, none, some (.int (0 : Int32))]) (lp_ind (P := (fun (s : (Int32 × M2)) => Ev Lx 14 cd_14 35 [some (.ref 157), none, none, none, none, none, some (.int s.1)] [] s.2 (some (.int b.1), b.2))) (fun s s2 hs hP => tb_Mo_feed_35   s.1 s.2 (b := .inl s2) hs hP) (fun s hs => tb_Mo_feed_35   s.1 s.2 (b := .inr e11) hs hX13) _ _ he11) ⟨rfl, ⟨rfl, trivial⟩⟩
  · rw [if_neg hc1] at h
    refine ev_iff rfl (cn_f hc1) ?_
    refine ev_rn (n := 1) (i2 := 7) (L2 := [some (.ref 157), some (.int p0), some (.int p1), some (.int p2), some (.int p3), some (.int p4)]) (st2 := [.int (-1 : Int32)]) (g2 := g) cdE_14 rfl ?_
    cases h
    exact ev_ret rfl rfl
def f_Da_end (p0 : Int32) (g : M2) : Option (Int32 × M2) := (if p0 < 0 then some ((-1 : Int32), g) else (if p0 ≤ (g.1 1 2) then (bd (uI g 1 2 p0) fun g3 => some (p0, g3)) else some ((-1 : Int32), g)))
theorem e_Da_end {Lx : Nat} (p0 : Int32)  (g : M2) {b : (Int32 × M2)} (h : f_Da_end p0 g = some b) : Ev Lx 15 cd_15 0 [some (.ref 0), some (.int p0)] [] g (some (.int b.1), b.2) := by
  unfold f_Da_end at h
  refine ev_rn (n := 1) (i2 := 1) (L2 := [some (.ref 0), some (.int p0)]) (st2 := [.int p0]) (g2 := g) cdE_15 rfl ?_
  by_cases hc1 : p0 < 0
  · rw [if_pos hc1] at h
    refine ev_zft cdE_15 rfl (cn_t hc1) ?_
    refine ev_rn (n := 1) (i2 := 8) (L2 := [some (.ref 0), some (.int p0)]) (st2 := [.int (-1 : Int32)]) (g2 := g) cdE_15 rfl ?_
    cases h
    exact ev_ret rfl rfl
  · rw [if_neg hc1] at h
    refine ev_zff rfl (cn_f hc1) ?_
    refine ev_rn (n := 4) (i2 := 6) (L2 := [some (.ref 0), some (.int p0)]) (st2 := [.int (g.1 1 2), .int p0]) (g2 := g) cdE_15 rfl ?_
    by_cases hc2 : p0 ≤ (g.1 1 2)
    · rw [if_pos hc2] at h
      refine ev_ift cdE_15 rfl (cn_t hc2) ?_
      refine ev_rn (n := 3) (i2 := 12) (L2 := [some (.ref 0), some (.int p0)]) (st2 := [.int p0, .ref 1]) (g2 := g) cdE_15 rfl ?_
      refine bd_elim h (fun g3 hg3 h => ?_)
      refine ev_pf (g2 := g3) rfl (rfl : S0[1]? = some _) (by decide) (by rw [hg3] <;> rfl) ?_
      refine ev_rn (n := 1) (i2 := 14) (L2 := [some (.ref 0), some (.int p0)]) (st2 := [.int p0]) (g2 := g3) cdE_15 rfl ?_
      cases h
      exact ev_ret rfl rfl
    · rw [if_neg hc2] at h
      refine ev_iff rfl (cn_f hc2) ?_
      refine ev_rn (n := 1) (i2 := 8) (L2 := [some (.ref 0), some (.int p0)]) (st2 := [.int (-1 : Int32)]) (g2 := g) cdE_15 rfl ?_
      cases h
      exact ev_ret rfl rfl
def f_Mo_in (p0 : Int64) (p1 : Int64) (p2 : Int64) (g : M2) : Int32 := (if p0 < p1 then (0 : Int32) else (if p2 < p0 then (0 : Int32) else (1 : Int32)))
theorem e_Mo_in {Lx : Nat} (p0 : Int64) (p1 : Int64) (p2 : Int64)  (g : M2) {b : Int32} (h : f_Mo_in p0 p1 p2 g = b) : Ev Lx 16 cd_16 0 [some (.long p0), none, some (.long p1), none, some (.long p2), none] [] g (some (.int b), g) := by
  unfold f_Mo_in at h
  refine ev_rn (n := 3) (i2 := 3) (L2 := [some (.long p0), none, some (.long p1), none, some (.long p2), none]) (st2 := [.int (lg_cmp p0 p1)]) (g2 := g) cdE_16 rfl ?_
  by_cases hc1 : p0 < p1
  · rw [if_pos hc1] at h
    refine ev_zft cdE_16 rfl (lc_lt_t hc1) ?_
    refine ev_rn (n := 1) (i2 := 11) (L2 := [some (.long p0), none, some (.long p1), none, some (.long p2), none]) (st2 := [.int (0 : Int32)]) (g2 := g) cdE_16 rfl ?_
    subst h
    exact ev_ret rfl rt_0
  · rw [if_neg hc1] at h
    refine ev_zff rfl (lc_lt_f hc1) ?_
    refine ev_rn (n := 3) (i2 := 7) (L2 := [some (.long p0), none, some (.long p1), none, some (.long p2), none]) (st2 := [.int (lg_cmp p0 p2)]) (g2 := g) cdE_16 rfl ?_
    by_cases hc2 : p2 < p0
    · rw [if_pos hc2] at h
      refine ev_zft cdE_16 rfl (lc_gt_t hc2) ?_
      refine ev_rn (n := 1) (i2 := 11) (L2 := [some (.long p0), none, some (.long p1), none, some (.long p2), none]) (st2 := [.int (0 : Int32)]) (g2 := g) cdE_16 rfl ?_
      subst h
      exact ev_ret rfl rt_0
    · rw [if_neg hc2] at h
      refine ev_zff rfl (lc_gt_f hc2) ?_
      refine ev_rn (n := 2) (i2 := 11) (L2 := [some (.long p0), none, some (.long p1), none, some (.long p2), none]) (st2 := [.int (1 : Int32)]) (g2 := g) cdE_16 rfl ?_
      subst h
      exact ev_ret rfl rt_1
def f_Mo_end (p0 : Int32) (g : M2) : Option (Int32 × M2) := (if (f_Mo_in p0.toInt64 (0 : Int64) (g.1 157 21).toInt64 g) = 0 then some ((-1 : Int32), g) else (bd (uI g 157 21 p0) fun g2 => some (p0, g2)))
theorem e_Mo_end {Lx : Nat} (p0 : Int32)  (g : M2) {b : (Int32 × M2)} (h : f_Mo_end p0 g = some b) : Ev Lx 17 cd_17 0 [some (.ref 157), some (.int p0)] [] g (some (.int b.1), b.2) := by
  unfold f_Mo_end at h
  refine ev_rn (n := 6) (i2 := 6) (L2 := [some (.ref 157), some (.int p0)]) (st2 := [.long (g.1 157 21).toInt64, .long (0 : Int64), .long p0.toInt64]) (g2 := g) cdE_17 rfl ?_
  refine ev_call rfl cdE_16 rfl rfl rfl (e_Mo_in p0.toInt64 (0 : Int64) (g.1 157 21).toInt64  g rfl) ?_
  by_cases hc1 : (f_Mo_in p0.toInt64 (0 : Int64) (g.1 157 21).toInt64 g) = 0
  · rw [if_pos hc1] at h
    refine ev_zff rfl (cn_f (fun q => q hc1)) ?_
    refine ev_rn (n := 1) (i2 := 9) (L2 := [some (.ref 157), some (.int p0)]) (st2 := [.int (-1 : Int32)]) (g2 := g) cdE_17 rfl ?_
    cases h
    exact ev_ret rfl rfl
  · rw [if_neg hc1] at h
    refine ev_zft cdE_17 rfl (cn_t hc1) ?_
    refine ev_rn (n := 2) (i2 := 12) (L2 := [some (.ref 157), some (.int p0)]) (st2 := [.int p0, .ref 157]) (g2 := g) cdE_17 rfl ?_
    refine bd_elim h (fun g2 hg2 h => ?_)
    refine ev_pf (g2 := g2) rfl (rfl : S0[157]? = some _) (by decide) (by rw [hg2] <;> rfl) ?_
    refine ev_rn (n := 1) (i2 := 14) (L2 := [some (.ref 157), some (.int p0)]) (st2 := [.int p0]) (g2 := g2) cdE_17 rfl ?_
    cases h
    exact ev_ret rfl rfl
def f_Pl_clear (a0 : Nat) (g : M2) : Option (M2) := (bd (uI g a0 2 (0 : Int32)) fun g1 => (bd (uI g1 a0 3 (0 : Int32)) fun g2 => (bd (uI g2 a0 4 (-1 : Int32)) fun g3 => (bd (uI g3 a0 5 (0 : Int32)) fun g4 => (bd (uI g4 a0 6 (0 : Int32)) fun g5 => (bd (uI g5 a0 7 (0 : Int32)) fun g6 => some g6))))))
theorem e_Pl_clear {Lx : Nat} (a0 : Nat) (ha0 : IsPlan a0) (g : M2) {b : M2} (h : f_Pl_clear a0 g = some b) : Ev Lx 18 cd_18 0 [some (.ref a0)] [] g (none, b) := by
  unfold f_Pl_clear at h
  refine ev_rn (n := 2) (i2 := 2) (L2 := [some (.ref a0)]) (st2 := [.int (0 : Int32), .ref a0]) (g2 := g) cdE_18 rfl ?_
  refine bd_elim h (fun g1 hg1 h => ?_)
  refine ev_pf (g2 := g1) rfl (pl_at ha0) (by decide) (by rw [hg1] <;> rfl) ?_
  refine ev_rn (n := 2) (i2 := 5) (L2 := [some (.ref a0)]) (st2 := [.int (0 : Int32), .ref a0]) (g2 := g1) cdE_18 rfl ?_
  refine bd_elim h (fun g2 hg2 h => ?_)
  refine ev_pf (g2 := g2) rfl (pl_at ha0) (by decide) (by rw [hg2] <;> rfl) ?_
  refine ev_rn (n := 2) (i2 := 8) (L2 := [some (.ref a0)]) (st2 := [.int (-1 : Int32), .ref a0]) (g2 := g2) cdE_18 rfl ?_
  refine bd_elim h (fun g3 hg3 h => ?_)
  refine ev_pf (g2 := g3) rfl (pl_at ha0) (by decide) (by rw [hg3] <;> rfl) ?_
  refine ev_rn (n := 2) (i2 := 11) (L2 := [some (.ref a0)]) (st2 := [.int (0 : Int32), .ref a0]) (g2 := g3) cdE_18 rfl ?_
  refine bd_elim h (fun g4 hg4 h => ?_)
  refine ev_pf (g2 := g4) rfl (pl_at ha0) (by decide) (by rw [hg4] <;> rfl) ?_
  refine ev_rn (n := 2) (i2 := 14) (L2 := [some (.ref a0)]) (st2 := [.int (0 : Int32), .ref a0]) (g2 := g4) cdE_18 rfl ?_
  refine bd_elim h (fun g5 hg5 h => ?_)
  refine ev_pf (g2 := g5) rfl (pl_at ha0) (by decide) (by rw [hg5] <;> rfl) ?_
  refine ev_rn (n := 2) (i2 := 17) (L2 := [some (.ref a0)]) (st2 := [.int (0 : Int32), .ref a0]) (g2 := g5) cdE_18 rfl ?_
  refine bd_elim h (fun g6 hg6 h => ?_)
  refine ev_pf (g2 := g6) rfl (pl_at ha0) (by decide) (by rw [hg6] <;> rfl) ?_
  cases h
  exact ev_ret rfl rfl
def f_Re_isLetter (p0 : Int32) (g : M2) : Int32 := (if p0 < (97 : Int32) then (0 : Int32) else (if (122 : Int32) < p0 then (0 : Int32) else (1 : Int32)))
theorem e_Re_isLetter {Lx : Nat} (p0 : Int32)  (g : M2) {b : Int32} (h : f_Re_isLetter p0 g = b) : Ev Lx 19 cd_19 0 [some (.int p0)] [] g (some (.int b), g) := by
  unfold f_Re_isLetter at h
  refine ev_rn (n := 2) (i2 := 2) (L2 := [some (.int p0)]) (st2 := [.int (97 : Int32), .int p0]) (g2 := g) cdE_19 rfl ?_
  by_cases hc1 : p0 < (97 : Int32)
  · rw [if_pos hc1] at h
    refine ev_ift cdE_19 rfl (cn_t hc1) ?_
    refine ev_rn (n := 1) (i2 := 9) (L2 := [some (.int p0)]) (st2 := [.int (0 : Int32)]) (g2 := g) cdE_19 rfl ?_
    subst h
    exact ev_ret rfl rt_0
  · rw [if_neg hc1] at h
    refine ev_iff rfl (cn_f hc1) ?_
    refine ev_rn (n := 2) (i2 := 5) (L2 := [some (.int p0)]) (st2 := [.int (122 : Int32), .int p0]) (g2 := g) cdE_19 rfl ?_
    by_cases hc2 : (122 : Int32) < p0
    · rw [if_pos hc2] at h
      refine ev_ift cdE_19 rfl (cn_t hc2) ?_
      refine ev_rn (n := 1) (i2 := 9) (L2 := [some (.int p0)]) (st2 := [.int (0 : Int32)]) (g2 := g) cdE_19 rfl ?_
      subst h
      exact ev_ret rfl rt_0
    · rw [if_neg hc2] at h
      refine ev_iff rfl (cn_f hc2) ?_
      refine ev_rn (n := 2) (i2 := 9) (L2 := [some (.int p0)]) (st2 := [.int (1 : Int32)]) (g2 := g) cdE_19 rfl ?_
      subst h
      exact ev_ret rfl rt_1
def f_Re_isDigit (p0 : Int32) (g : M2) : Int32 := (if p0 < (48 : Int32) then (0 : Int32) else (if (57 : Int32) < p0 then (0 : Int32) else (1 : Int32)))
theorem e_Re_isDigit {Lx : Nat} (p0 : Int32)  (g : M2) {b : Int32} (h : f_Re_isDigit p0 g = b) : Ev Lx 20 cd_20 0 [some (.int p0)] [] g (some (.int b), g) := by
  unfold f_Re_isDigit at h
  refine ev_rn (n := 2) (i2 := 2) (L2 := [some (.int p0)]) (st2 := [.int (48 : Int32), .int p0]) (g2 := g) cdE_20 rfl ?_
  by_cases hc1 : p0 < (48 : Int32)
  · rw [if_pos hc1] at h
    refine ev_ift cdE_20 rfl (cn_t hc1) ?_
    refine ev_rn (n := 1) (i2 := 9) (L2 := [some (.int p0)]) (st2 := [.int (0 : Int32)]) (g2 := g) cdE_20 rfl ?_
    subst h
    exact ev_ret rfl rt_0
  · rw [if_neg hc1] at h
    refine ev_iff rfl (cn_f hc1) ?_
    refine ev_rn (n := 2) (i2 := 5) (L2 := [some (.int p0)]) (st2 := [.int (57 : Int32), .int p0]) (g2 := g) cdE_20 rfl ?_
    by_cases hc2 : (57 : Int32) < p0
    · rw [if_pos hc2] at h
      refine ev_ift cdE_20 rfl (cn_t hc2) ?_
      refine ev_rn (n := 1) (i2 := 9) (L2 := [some (.int p0)]) (st2 := [.int (0 : Int32)]) (g2 := g) cdE_20 rfl ?_
      subst h
      exact ev_ret rfl rt_0
    · rw [if_neg hc2] at h
      refine ev_iff rfl (cn_f hc2) ?_
      refine ev_rn (n := 2) (i2 := 9) (L2 := [some (.int p0)]) (st2 := [.int (1 : Int32)]) (g2 := g) cdE_20 rfl ?_
      subst h
      exact ev_ret rfl rt_1
def f_Ma_min (p0 : Int32) (p1 : Int32) (g : M2) : Int32 := (if p1 < p0 then p1 else p0)
theorem e_Ma_min {Lx : Nat} (p0 : Int32) (p1 : Int32)  (g : M2) {b : Int32} (h : f_Ma_min p0 p1 g = b) : Ev Lx 21 cd_21 0 [some (.int p0), some (.int p1)] [] g (some (.int b), g) := by
  unfold f_Ma_min at h
  refine ev_rn (n := 2) (i2 := 2) (L2 := [some (.int p0), some (.int p1)]) (st2 := [.int p1, .int p0]) (g2 := g) cdE_21 rfl ?_
  by_cases hc1 : p1 < p0
  · rw [if_pos hc1] at h
    refine ev_ift cdE_21 rfl (cn_t hc1) ?_
    refine ev_rn (n := 1) (i2 := 6) (L2 := [some (.int p0), some (.int p1)]) (st2 := [.int p1]) (g2 := g) cdE_21 rfl ?_
    subst h
    exact ev_ret rfl rfl
  · rw [if_neg hc1] at h
    refine ev_iff rfl (cn_f hc1) ?_
    refine ev_rn (n := 2) (i2 := 6) (L2 := [some (.int p0), some (.int p1)]) (st2 := [.int p0]) (g2 := g) cdE_21 rfl ?_
    subst h
    exact ev_ret rfl rfl
def b_Re_nextToken_0   (g : M2) : Option (M2 ⊕ M2) := (if (g.1 1 2) ≤ (g.1 1 3) then some (.inr g) else (if inb (g.1 1 3) 300 then (if (g.1 2 (g.1 1 3).toNatClampNeg) = (32 : Int32) then (bd (uI g 1 3 ((g.1 1 3) + (1 : Int32))) fun g4 => some (.inl g4)) else (if inb (g.1 1 3) 300 then (if (g.1 2 (g.1 1 3).toNatClampNeg) = (10 : Int32) then (bd (uI g 1 3 ((g.1 1 3) + (1 : Int32))) fun g7 => some (.inl g7)) else some (.inr g)) else none)) else none))
theorem tb_Re_nextToken_0 {Lx : Nat}    (g : M2) {b : M2 ⊕ M2} {o : Option Value × M2} (h : b_Re_nextToken_0  g = some b) (hb : Sum.elim (fun s => Ev Lx 22 cd_22 0 [some (.ref 1)] [] s o) (fun e => Ev Lx 22 cd_22 26 [some (.ref 1)] [] e o) b) : Ev Lx 22 cd_22 0 [some (.ref 1)] [] g o := by
  unfold b_Re_nextToken_0 at h
  refine ev_rn (n := 4) (i2 := 4) (L2 := [some (.ref 1)]) (st2 := [.int (g.1 1 2), .int (g.1 1 3)]) (g2 := g) cdE_22 rfl ?_
  by_cases hc1 : (g.1 1 2) ≤ (g.1 1 3)
  · rw [if_pos hc1] at h
    refine ev_ift cdE_22 rfl (cn_t hc1) ?_
    cases h
    exact ev_wk (L := [some (.ref 1)]) hb ⟨rfl, trivial⟩
  · rw [if_neg hc1] at h
    refine ev_iff rfl (cn_f hc1) ?_
    refine ev_rn (n := 4) (i2 := 9) (L2 := [some (.ref 1)]) (st2 := [.int (g.1 1 3), .ref 2]) (g2 := g) cdE_22 rfl ?_
    by_cases hi2 : inb (g.1 1 3) 300
    · rw [if_pos hi2] at h
      refine ev_iaload (v := .int (g.1 2 (g.1 1 3).toNatClampNeg)) rfl (kd_of (show S0[2]? = some (100, 300, List.replicate 300 none) from rfl)) (by decide) hi2 rfl ?_
      refine ev_rn (n := 1) (i2 := 11) (L2 := [some (.ref 1)]) (st2 := [.int (32 : Int32), .int (g.1 2 (g.1 1 3).toNatClampNeg)]) (g2 := g) cdE_22 rfl ?_
      by_cases hc3 : (g.1 2 (g.1 1 3).toNatClampNeg) = (32 : Int32)
      · rw [if_pos hc3] at h
        refine ev_ift cdE_22 rfl (cn_t hc3) ?_
        refine ev_rn (n := 5) (i2 := 24) (L2 := [some (.ref 1)]) (st2 := [.int ((g.1 1 3) + (1 : Int32)), .ref 1]) (g2 := g) cdE_22 rfl ?_
        refine bd_elim h (fun g4 hg4 h => ?_)
        refine ev_pf (g2 := g4) rfl (rfl : S0[1]? = some _) (by decide) (by rw [hg4] <;> rfl) ?_
        refine ev_rn (n := 1) (i2 := 0) (L2 := [some (.ref 1)]) (st2 := []) (g2 := g4) cdE_22 rfl ?_
        cases h
        exact ev_wk (L := [some (.ref 1)]) hb ⟨rfl, trivial⟩
      · rw [if_neg hc3] at h
        refine ev_iff rfl (cn_f hc3) ?_
        refine ev_rn (n := 4) (i2 := 16) (L2 := [some (.ref 1)]) (st2 := [.int (g.1 1 3), .ref 2]) (g2 := g) cdE_22 rfl ?_
        by_cases hi5 : inb (g.1 1 3) 300
        · rw [if_pos hi5] at h
          refine ev_iaload (v := .int (g.1 2 (g.1 1 3).toNatClampNeg)) rfl (kd_of (show S0[2]? = some (100, 300, List.replicate 300 none) from rfl)) (by decide) hi5 rfl ?_
          refine ev_rn (n := 1) (i2 := 18) (L2 := [some (.ref 1)]) (st2 := [.int (10 : Int32), .int (g.1 2 (g.1 1 3).toNatClampNeg)]) (g2 := g) cdE_22 rfl ?_
          by_cases hc6 : (g.1 2 (g.1 1 3).toNatClampNeg) = (10 : Int32)
          · rw [if_pos hc6] at h
            refine ev_iff rfl (cn_f (fun q => q hc6)) ?_
            refine ev_rn (n := 5) (i2 := 24) (L2 := [some (.ref 1)]) (st2 := [.int ((g.1 1 3) + (1 : Int32)), .ref 1]) (g2 := g) cdE_22 rfl ?_
            refine bd_elim h (fun g7 hg7 h => ?_)
            refine ev_pf (g2 := g7) rfl (rfl : S0[1]? = some _) (by decide) (by rw [hg7] <;> rfl) ?_
            refine ev_rn (n := 1) (i2 := 0) (L2 := [some (.ref 1)]) (st2 := []) (g2 := g7) cdE_22 rfl ?_
            cases h
            exact ev_wk (L := [some (.ref 1)]) hb ⟨rfl, trivial⟩
          · rw [if_neg hc6] at h
            refine ev_ift cdE_22 rfl (cn_t hc6) ?_
            cases h
            exact ev_wk (L := [some (.ref 1)]) hb ⟨rfl, trivial⟩
        · rw [if_neg hi5] at h
          cases h
    · rw [if_neg hi2] at h
      cases h
def b_Re_nextToken_81   (g : M2) : Option (M2 ⊕ M2) := (if (g.1 1 2) ≤ (g.1 1 3) then some (.inr g) else (if inb (g.1 1 3) 300 then (if (f_Re_isDigit (g.1 2 (g.1 1 3).toNatClampNeg) g) = 0 then some (.inr g) else (if inb (g.1 1 3) 300 then (bd (uI g 1 6 (f_Ma_min (1000 : Int32) ((((g.1 1 6) * (10 : Int32)) + (g.1 2 (g.1 1 3).toNatClampNeg)) - (48 : Int32)) g)) fun g27 => (bd (uI g27 1 3 ((g27.1 1 3) + (1 : Int32))) fun g28 => some (.inl g28))) else none)) else none))
theorem tb_Re_nextToken_81 {Lx : Nat}    (g : M2) {b : M2 ⊕ M2} {o : Option Value × M2} (h : b_Re_nextToken_81  g = some b) (hb : Sum.elim (fun s => Ev Lx 22 cd_22 81 [some (.ref 1)] [] s o) (fun e => Ev Lx 22 cd_22 134 [] [] e o) b) : Ev Lx 22 cd_22 81 [some (.ref 1)] [] g o := by
  unfold b_Re_nextToken_81 at h
  refine ev_rn (n := 4) (i2 := 85) (L2 := [some (.ref 1)]) (st2 := [.int (g.1 1 2), .int (g.1 1 3)]) (g2 := g) cdE_22 rfl ?_
  by_cases hc23 : (g.1 1 2) ≤ (g.1 1 3)
  · rw [if_pos hc23] at h
    refine ev_ift cdE_22 rfl (cn_t hc23) ?_
    cases h
    exact ev_wk (L := []) hb trivial
  · rw [if_neg hc23] at h
    refine ev_iff rfl (cn_f hc23) ?_
    refine ev_rn (n := 4) (i2 := 90) (L2 := [some (.ref 1)]) (st2 := [.int (g.1 1 3), .ref 2]) (g2 := g) cdE_22 rfl ?_
    by_cases hi24 : inb (g.1 1 3) 300
    · rw [if_pos hi24] at h
      refine ev_iaload (v := .int (g.1 2 (g.1 1 3).toNatClampNeg)) rfl (kd_of (show S0[2]? = some (100, 300, List.replicate 300 none) from rfl)) (by decide) hi24 rfl ?_
      refine ev_call rfl cdE_20 rfl rfl rfl (e_Re_isDigit (g.1 2 (g.1 1 3).toNatClampNeg)  g rfl) ?_
      by_cases hc25 : (f_Re_isDigit (g.1 2 (g.1 1 3).toNatClampNeg) g) = 0
      · rw [if_pos hc25] at h
        refine ev_zft cdE_22 rfl (cn_t hc25) ?_
        cases h
        exact ev_wk (L := []) hb trivial
      · rw [if_neg hc25] at h
        refine ev_zff rfl (cn_f hc25) ?_
        refine ev_rn (n := 10) (i2 := 103) (L2 := [some (.ref 1)]) (st2 := [.int (g.1 1 3), .ref 2, .int ((g.1 1 6) * (10 : Int32)), .int (1000 : Int32), .ref 1]) (g2 := g) cdE_22 rfl ?_
        by_cases hi26 : inb (g.1 1 3) 300
        · rw [if_pos hi26] at h
          refine ev_iaload (v := .int (g.1 2 (g.1 1 3).toNatClampNeg)) rfl (kd_of (show S0[2]? = some (100, 300, List.replicate 300 none) from rfl)) (by decide) hi26 rfl ?_
          refine ev_rn (n := 3) (i2 := 107) (L2 := [some (.ref 1)]) (st2 := [.int ((((g.1 1 6) * (10 : Int32)) + (g.1 2 (g.1 1 3).toNatClampNeg)) - (48 : Int32)), .int (1000 : Int32), .ref 1]) (g2 := g) cdE_22 rfl ?_
          refine ev_call rfl cdE_21 rfl rfl rfl (e_Ma_min (1000 : Int32) ((((g.1 1 6) * (10 : Int32)) + (g.1 2 (g.1 1 3).toNatClampNeg)) - (48 : Int32))  g rfl) ?_
          refine bd_elim h (fun g27 hg27 h => ?_)
          refine ev_pf (g2 := g27) rfl (rfl : S0[1]? = some _) (by decide) (by rw [hg27] <;> rfl) ?_
          refine ev_rn (n := 5) (i2 := 114) (L2 := [some (.ref 1)]) (st2 := [.int ((g27.1 1 3) + (1 : Int32)), .ref 1]) (g2 := g27) cdE_22 rfl ?_
          refine bd_elim h (fun g28 hg28 h => ?_)
          refine ev_pf (g2 := g28) rfl (rfl : S0[1]? = some _) (by decide) (by rw [hg28] <;> rfl) ?_
          refine ev_rn (n := 1) (i2 := 81) (L2 := [some (.ref 1)]) (st2 := []) (g2 := g28) cdE_22 rfl ?_
          cases h
          exact ev_wk (L := [some (.ref 1)]) hb ⟨rfl, trivial⟩
        · rw [if_neg hi26] at h
          cases h
    · rw [if_neg hi24] at h
      cases h
def b_Re_nextToken_52   (g : M2) : Option (M2 ⊕ M2) := (if (g.1 1 2) ≤ (g.1 1 3) then some (.inr g) else (if inb (g.1 1 3) 300 then (if (f_Re_isLetter (g.1 2 (g.1 1 3).toNatClampNeg) g) = 0 then some (.inr g) else (bd (uI g 1 3 ((g.1 1 3) + (1 : Int32))) fun g35 => some (.inl g35))) else none))
theorem tb_Re_nextToken_52 {Lx : Nat}    (g : M2) {b : M2 ⊕ M2} {o : Option Value × M2} (h : b_Re_nextToken_52  g = some b) (hb : Sum.elim (fun s => Ev Lx 22 cd_22 52 [some (.ref 1)] [] s o) (fun e => Ev Lx 22 cd_22 134 [] [] e o) b) : Ev Lx 22 cd_22 52 [some (.ref 1)] [] g o := by
  unfold b_Re_nextToken_52 at h
  refine ev_rn (n := 4) (i2 := 56) (L2 := [some (.ref 1)]) (st2 := [.int (g.1 1 2), .int (g.1 1 3)]) (g2 := g) cdE_22 rfl ?_
  by_cases hc32 : (g.1 1 2) ≤ (g.1 1 3)
  · rw [if_pos hc32] at h
    refine ev_ift cdE_22 rfl (cn_t hc32) ?_
    cases h
    exact ev_wk (L := []) hb trivial
  · rw [if_neg hc32] at h
    refine ev_iff rfl (cn_f hc32) ?_
    refine ev_rn (n := 4) (i2 := 61) (L2 := [some (.ref 1)]) (st2 := [.int (g.1 1 3), .ref 2]) (g2 := g) cdE_22 rfl ?_
    by_cases hi33 : inb (g.1 1 3) 300
    · rw [if_pos hi33] at h
      refine ev_iaload (v := .int (g.1 2 (g.1 1 3).toNatClampNeg)) rfl (kd_of (show S0[2]? = some (100, 300, List.replicate 300 none) from rfl)) (by decide) hi33 rfl ?_
      refine ev_call rfl cdE_19 rfl rfl rfl (e_Re_isLetter (g.1 2 (g.1 1 3).toNatClampNeg)  g rfl) ?_
      by_cases hc34 : (f_Re_isLetter (g.1 2 (g.1 1 3).toNatClampNeg) g) = 0
      · rw [if_pos hc34] at h
        refine ev_zft cdE_22 rfl (cn_t hc34) ?_
        cases h
        exact ev_wk (L := []) hb trivial
      · rw [if_neg hc34] at h
        refine ev_zff rfl (cn_f hc34) ?_
        refine ev_rn (n := 5) (i2 := 69) (L2 := [some (.ref 1)]) (st2 := [.int ((g.1 1 3) + (1 : Int32)), .ref 1]) (g2 := g) cdE_22 rfl ?_
        refine bd_elim h (fun g35 hg35 h => ?_)
        refine ev_pf (g2 := g35) rfl (rfl : S0[1]? = some _) (by decide) (by rw [hg35] <;> rfl) ?_
        refine ev_rn (n := 1) (i2 := 52) (L2 := [some (.ref 1)]) (st2 := []) (g2 := g35) cdE_22 rfl ?_
        cases h
        exact ev_wk (L := [some (.ref 1)]) hb ⟨rfl, trivial⟩
    · rw [if_neg hi33] at h
      cases h
def j_Re_nextToken_26  (g : M2) : Option (M2) := (bd (uI g 1 4 (g.1 1 3)) fun g9 => (bd (uI g9 1 6 (0 : Int32)) fun g10 => (if (g10.1 1 3) < (g10.1 1 2) then (if inb (g10.1 1 3) 300 then (if (f_Re_isLetter (g10.1 2 (g10.1 1 3).toNatClampNeg) g10) = 0 then (if inb (g10.1 1 3) 300 then (if (f_Re_isDigit (g10.1 2 (g10.1 1 3).toNatClampNeg) g10) = 0 then (if inb (g10.1 1 3) 300 then (if (g10.1 2 (g10.1 1 3).toNatClampNeg) = (59 : Int32) then (bd (uI g10 1 5 (3 : Int32)) fun g20 => (bd (uI g20 1 3 ((g20.1 1 3) + (1 : Int32))) fun g21 => some g21)) else (bd (uI g10 1 5 (4 : Int32)) fun g18 => (bd (uI g18 1 3 ((g18.1 1 3) + (1 : Int32))) fun g19 => some g19))) else none) else (bd (uI g10 1 5 (2 : Int32)) fun g22 => ((lp (fun s => b_Re_nextToken_81   s) 5000 g22).bind fun e29 => some e29))) else none) else (bd (uI g10 1 5 (1 : Int32)) fun g31 => ((lp (fun s => b_Re_nextToken_52   s) 5000 g31).bind fun e36 => some e36))) else none) else (bd (uI g10 1 5 (0 : Int32)) fun g38 => some g38))))
theorem tj_Re_nextToken_26 {Lx : Nat}    (g : M2) {b : M2} (h : j_Re_nextToken_26  g = some b) : Ev Lx 22 cd_22 26 [some (.ref 1)] [] g (none, b) := by
  unfold j_Re_nextToken_26 at h
  refine ev_rn (n := 3) (i2 := 29) (L2 := [some (.ref 1)]) (st2 := [.int (g.1 1 3), .ref 1]) (g2 := g) cdE_22 rfl ?_
  refine bd_elim h (fun g9 hg9 h => ?_)
  refine ev_pf (g2 := g9) rfl (rfl : S0[1]? = some _) (by decide) (by rw [hg9] <;> rfl) ?_
  refine ev_rn (n := 2) (i2 := 32) (L2 := [some (.ref 1)]) (st2 := [.int (0 : Int32), .ref 1]) (g2 := g9) cdE_22 rfl ?_
  refine bd_elim h (fun g10 hg10 h => ?_)
  refine ev_pf (g2 := g10) rfl (rfl : S0[1]? = some _) (by decide) (by rw [hg10] <;> rfl) ?_
  refine ev_rn (n := 4) (i2 := 37) (L2 := [some (.ref 1)]) (st2 := [.int (g10.1 1 2), .int (g10.1 1 3)]) (g2 := g10) cdE_22 rfl ?_
  by_cases hc11 : (g10.1 1 3) < (g10.1 1 2)
  · rw [if_pos hc11] at h
    refine ev_ift cdE_22 rfl (cn_t hc11) ?_
    refine ev_rn (n := 4) (i2 := 46) (L2 := [some (.ref 1)]) (st2 := [.int (g10.1 1 3), .ref 2]) (g2 := g10) cdE_22 rfl ?_
    by_cases hi12 : inb (g10.1 1 3) 300
    · rw [if_pos hi12] at h
      refine ev_iaload (v := .int (g10.1 2 (g10.1 1 3).toNatClampNeg)) rfl (kd_of (show S0[2]? = some (100, 300, List.replicate 300 none) from rfl)) (by decide) hi12 rfl ?_
      refine ev_call rfl cdE_19 rfl rfl rfl (e_Re_isLetter (g10.1 2 (g10.1 1 3).toNatClampNeg)  g10 rfl) ?_
      by_cases hc13 : (f_Re_isLetter (g10.1 2 (g10.1 1 3).toNatClampNeg) g10) = 0
      · rw [if_pos hc13] at h
        refine ev_zft cdE_22 rfl (cn_t hc13) ?_
        refine ev_rn (n := 4) (i2 := 75) (L2 := [some (.ref 1)]) (st2 := [.int (g10.1 1 3), .ref 2]) (g2 := g10) cdE_22 rfl ?_
        by_cases hi14 : inb (g10.1 1 3) 300
        · rw [if_pos hi14] at h
          refine ev_iaload (v := .int (g10.1 2 (g10.1 1 3).toNatClampNeg)) rfl (kd_of (show S0[2]? = some (100, 300, List.replicate 300 none) from rfl)) (by decide) hi14 rfl ?_
          refine ev_call rfl cdE_20 rfl rfl rfl (e_Re_isDigit (g10.1 2 (g10.1 1 3).toNatClampNeg)  g10 rfl) ?_
          by_cases hc15 : (f_Re_isDigit (g10.1 2 (g10.1 1 3).toNatClampNeg) g10) = 0
          · rw [if_pos hc15] at h
            refine ev_zft cdE_22 rfl (cn_t hc15) ?_
            refine ev_rn (n := 5) (i2 := 121) (L2 := [some (.ref 1)]) (st2 := [.int (g10.1 1 3), .ref 2, .ref 1]) (g2 := g10) cdE_22 rfl ?_
            by_cases hi16 : inb (g10.1 1 3) 300
            · rw [if_pos hi16] at h
              refine ev_iaload (v := .int (g10.1 2 (g10.1 1 3).toNatClampNeg)) rfl (kd_of (show S0[2]? = some (100, 300, List.replicate 300 none) from rfl)) (by decide) hi16 rfl ?_
              refine ev_rn (n := 1) (i2 := 123) (L2 := [some (.ref 1)]) (st2 := [.int (59 : Int32), .int (g10.1 2 (g10.1 1 3).toNatClampNeg), .ref 1]) (g2 := g10) cdE_22 rfl ?_
              by_cases hc17 : (g10.1 2 (g10.1 1 3).toNatClampNeg) = (59 : Int32)
              · rw [if_pos hc17] at h
                refine ev_iff rfl (cn_f (fun q => q hc17)) ?_
                refine ev_rn (n := 2) (i2 := 127) (L2 := [some (.ref 1)]) (st2 := [.int (3 : Int32), .ref 1]) (g2 := g10) cdE_22 rfl ?_
                refine bd_elim h (fun g20 hg20 h => ?_)
                refine ev_pf (g2 := g20) rfl (rfl : S0[1]? = some _) (by decide) (by rw [hg20] <;> rfl) ?_
                refine ev_rn (n := 5) (i2 := 133) (L2 := [some (.ref 1)]) (st2 := [.int ((g20.1 1 3) + (1 : Int32)), .ref 1]) (g2 := g20) cdE_22 rfl ?_
                refine bd_elim h (fun g21 hg21 h => ?_)
                refine ev_pf (g2 := g21) rfl (rfl : S0[1]? = some _) (by decide) (by rw [hg21] <;> rfl) ?_
                cases h
                exact ev_ret rfl rfl
              · rw [if_neg hc17] at h
                refine ev_ift cdE_22 rfl (cn_t hc17) ?_
                refine ev_rn (n := 1) (i2 := 127) (L2 := [some (.ref 1)]) (st2 := [.int (4 : Int32), .ref 1]) (g2 := g10) cdE_22 rfl ?_
                refine bd_elim h (fun g18 hg18 h => ?_)
                refine ev_pf (g2 := g18) rfl (rfl : S0[1]? = some _) (by decide) (by rw [hg18] <;> rfl) ?_
                refine ev_rn (n := 5) (i2 := 133) (L2 := [some (.ref 1)]) (st2 := [.int ((g18.1 1 3) + (1 : Int32)), .ref 1]) (g2 := g18) cdE_22 rfl ?_
                refine bd_elim h (fun g19 hg19 h => ?_)
                refine ev_pf (g2 := g19) rfl (rfl : S0[1]? = some _) (by decide) (by rw [hg19] <;> rfl) ?_
                cases h
                exact ev_ret rfl rfl
            · rw [if_neg hi16] at h
              cases h
          · rw [if_neg hc15] at h
            refine ev_zff rfl (cn_f hc15) ?_
            refine ev_rn (n := 2) (i2 := 80) (L2 := [some (.ref 1)]) (st2 := [.int (2 : Int32), .ref 1]) (g2 := g10) cdE_22 rfl ?_
            refine bd_elim h (fun g22 hg22 h => ?_)
            refine ev_pf (g2 := g22) rfl (rfl : S0[1]? = some _) (by decide) (by rw [hg22] <;> rfl) ?_
            obtain ⟨e29, he29, h⟩ := Option.bind_eq_some_iff.mp h
            have hX30 : Ev Lx 22 cd_22 134 [] [] e29 (none, b) := by
              cases h
              exact ev_ret rfl rfl
            exact ev_wk (L := [some (.ref 1)]) (lp_ind (P := (fun (s : M2) => Ev Lx 22 cd_22 81 [some (.ref 1)] [] s (none, b))) (fun s s2 hs hP => tb_Re_nextToken_81    s (b := .inl s2) hs hP) (fun s hs => tb_Re_nextToken_81    s (b := .inr e29) hs hX30) _ _ he29) ⟨rfl, trivial⟩
        · rw [if_neg hi14] at h
          cases h
      · rw [if_neg hc13] at h
        refine ev_zff rfl (cn_f hc13) ?_
        refine ev_rn (n := 2) (i2 := 51) (L2 := [some (.ref 1)]) (st2 := [.int (1 : Int32), .ref 1]) (g2 := g10) cdE_22 rfl ?_
        refine bd_elim h (fun g31 hg31 h => ?_)
        refine ev_pf (g2 := g31) rfl (rfl : S0[1]? = some _) (by decide) (by rw [hg31] <;> rfl) ?_
        obtain ⟨e36, he36, h⟩ := Option.bind_eq_some_iff.mp h
        have hX37 : Ev Lx 22 cd_22 134 [] [] e36 (none, b) := by
          cases h
          exact ev_ret rfl rfl
        exact ev_wk (L := [some (.ref 1)]) (lp_ind (P := (fun (s : M2) => Ev Lx 22 cd_22 52 [some (.ref 1)] [] s (none, b))) (fun s s2 hs hP => tb_Re_nextToken_52    s (b := .inl s2) hs hP) (fun s hs => tb_Re_nextToken_52    s (b := .inr e36) hs hX37) _ _ he36) ⟨rfl, trivial⟩
    · rw [if_neg hi12] at h
      cases h
  · rw [if_neg hc11] at h
    refine ev_iff rfl (cn_f hc11) ?_
    refine ev_rn (n := 2) (i2 := 40) (L2 := [some (.ref 1)]) (st2 := [.int (0 : Int32), .ref 1]) (g2 := g10) cdE_22 rfl ?_
    refine bd_elim h (fun g38 hg38 h => ?_)
    refine ev_pf (g2 := g38) rfl (rfl : S0[1]? = some _) (by decide) (by rw [hg38] <;> rfl) ?_
    refine ev_rn (n := 1) (i2 := 134) (L2 := [some (.ref 1)]) (st2 := []) (g2 := g38) cdE_22 rfl ?_
    cases h
    exact ev_ret rfl rfl
def f_Re_nextToken  (g : M2) : Option (M2) := ((lp (fun s => b_Re_nextToken_0   s) 5000 g).bind fun e8 => (j_Re_nextToken_26  e8))
theorem e_Re_nextToken {Lx : Nat}   (g : M2) {b : M2} (h : f_Re_nextToken  g = some b) : Ev Lx 22 cd_22 0 [some (.ref 1)] [] g (none, b) := by
  unfold f_Re_nextToken at h
  obtain ⟨e8, he8, h⟩ := Option.bind_eq_some_iff.mp h
  have hX39 : Ev Lx 22 cd_22 26 [some (.ref 1)] [] e8 (none, b) := by
    exact ev_wk (L := [some (.ref 1)]) (tj_Re_nextToken_26    e8 h) ⟨rfl, trivial⟩
  exact ev_wk (L := [some (.ref 1)]) (lp_ind (P := (fun (s : M2) => Ev Lx 22 cd_22 0 [some (.ref 1)] [] s (none, b))) (fun s s2 hs hP => tb_Re_nextToken_0    s (b := .inl s2) hs hP) (fun s hs => tb_Re_nextToken_0    s (b := .inr e8) hs hX39) _ _ he8) ⟨rfl, trivial⟩
def b_Re_isWord_17 (v1 : Nat) (v2 : Int32) (g : M2) : Option (Int32 ⊕ (Unit ⊕ Int32)) := (if (g.1 1 3) ≤ v2 then some (.inr (.inl ())) else (if inb v2 300 then (if inb (v2 - (g.1 1 4)) (mm_tx v1).length then (if (g.1 2 v2.toNatClampNeg) = (nI ((mm_tx v1).getD (v2 - (g.1 1 4)).toNatClampNeg 0)) then some (.inl (v2 + (1 : Int32))) else some (.inr (.inr (0 : Int32)))) else none) else none))
theorem tb_Re_isWord_17 {Lx : Nat} (v1 : Nat) (hv1 : IsStr v1) (v2 : Int32) (g : M2) {b : Int32 ⊕ (Unit ⊕ Int32)} {o : Option Value × M2} (h : b_Re_isWord_17 v1 v2 g = some b) (hb : Sum.elim (fun s => Ev Lx 23 cd_23 17 [some (.ref 1), some (.ref v1), some (.int s)] [] g o) (Sum.elim (fun e => Ev Lx 23 cd_23 36 [] [] g o) (fun r => o = (some (.int r), g))) b) : Ev Lx 23 cd_23 17 [some (.ref 1), some (.ref v1), some (.int v2)] [] g o := by
  unfold b_Re_isWord_17 at h
  refine ev_rn (n := 3) (i2 := 20) (L2 := [some (.ref 1), some (.ref v1), some (.int v2)]) (st2 := [.int (g.1 1 3), .int v2]) (g2 := g) cdE_23 rfl ?_
  by_cases hc3 : (g.1 1 3) ≤ v2
  · rw [if_pos hc3] at h
    refine ev_ift cdE_23 rfl (cn_t hc3) ?_
    cases h
    exact ev_wk (L := []) hb trivial
  · rw [if_neg hc3] at h
    refine ev_iff rfl (cn_f hc3) ?_
    refine ev_rn (n := 3) (i2 := 24) (L2 := [some (.ref 1), some (.ref v1), some (.int v2)]) (st2 := [.int v2, .ref 2]) (g2 := g) cdE_23 rfl ?_
    by_cases hi4 : inb v2 300
    · rw [if_pos hi4] at h
      refine ev_iaload (v := .int (g.1 2 v2.toNatClampNeg)) rfl (kd_of (show S0[2]? = some (100, 300, List.replicate 300 none) from rfl)) (by decide) hi4 rfl ?_
      refine ev_rn (n := 5) (i2 := 30) (L2 := [some (.ref 1), some (.ref v1), some (.int v2)]) (st2 := [.int (v2 - (g.1 1 4)), .ref v1, .int (g.1 2 v2.toNatClampNeg)]) (g2 := g) cdE_23 rfl ?_
      by_cases hs5 : inb (v2 - (g.1 1 4)) (mm_tx v1).length
      · rw [if_pos hs5] at h
        refine ev_sc rfl (Nat.le_of_ble_eq_true rfl) hv1 hs5 ?_
        by_cases hc6 : (g.1 2 v2.toNatClampNeg) = (nI ((mm_tx v1).getD (v2 - (g.1 1 4)).toNatClampNeg 0))
        · rw [if_pos hc6] at h
          refine ev_ift cdE_23 rfl (cn_t hc6) ?_
          refine ev_rn (n := 2) (i2 := 17) (L2 := [some (.ref 1), some (.ref v1), some (.int (v2 + (1 : Int32)))]) (st2 := []) (g2 := g) cdE_23 rfl ?_
          cases h
          exact ev_wk (L := [some (.ref 1), some (.ref v1), some (.int (v2 + (1 : Int32)))]) hb ⟨rfl, ⟨rfl, ⟨rfl, trivial⟩⟩⟩
        · rw [if_neg hc6] at h
          refine ev_iff rfl (cn_f hc6) ?_
          refine ev_rn (n := 1) (i2 := 33) (L2 := [some (.ref 1), some (.ref v1), some (.int v2)]) (st2 := [.int (0 : Int32)]) (g2 := g) cdE_23 rfl ?_
          cases h
          cases hb
          exact ev_ret rfl rt_0
      · rw [if_neg hs5] at h
        cases h
    · rw [if_neg hi4] at h
      cases h
def f_Re_isWord (p0 : Nat) (g : M2) : Option (Int32) := (if (g.1 1 5) = (1 : Int32) then (if ((g.1 1 3) - (g.1 1 4)) = (nI (mm_tx p0).length) then ((lp (fun s => b_Re_isWord_17 p0 s g) 5000 (g.1 1 4)).bind fun ue7 => Sum.elim (fun e7 => some (1 : Int32)) (fun re7 => some re7) ue7) else some (0 : Int32)) else some (0 : Int32))
theorem e_Re_isWord {Lx : Nat} (p0 : Nat) (hp0 : IsStr p0) (g : M2) {b : Int32} (h : f_Re_isWord p0 g = some b) : Ev Lx 23 cd_23 0 [some (.ref 1), some (.ref p0)] [] g (some (.int b), g) := by
  unfold f_Re_isWord at h
  refine ev_rn (n := 3) (i2 := 3) (L2 := [some (.ref 1), some (.ref p0)]) (st2 := [.int (1 : Int32), .int (g.1 1 5)]) (g2 := g) cdE_23 rfl ?_
  by_cases hc1 : (g.1 1 5) = (1 : Int32)
  · rw [if_pos hc1] at h
    refine ev_iff rfl (cn_f (fun q => q hc1)) ?_
    refine ev_rn (n := 6) (i2 := 10) (L2 := [some (.ref 1), some (.ref p0)]) (st2 := [.ref p0, .int ((g.1 1 3) - (g.1 1 4))]) (g2 := g) cdE_23 rfl ?_
    refine ev_sl rfl (Nat.le_of_ble_eq_true rfl) hp0 ?_
    by_cases hc2 : ((g.1 1 3) - (g.1 1 4)) = (nI (mm_tx p0).length)
    · rw [if_pos hc2] at h
      refine ev_ift cdE_23 rfl (cn_t hc2) ?_
      refine ev_rn (n := 3) (i2 := 17) (L2 := [some (.ref 1), some (.ref p0), some (.int (g.1 1 4))]) (st2 := []) (g2 := g) cdE_23 rfl ?_
      obtain ⟨ue7, he7, h⟩ := Option.bind_eq_some_iff.mp h
      cases ue7 with
      | inl e7 =>
        replace h := h
        have hX8 : Ev Lx 23 cd_23 36 [] [] g (some (.int b), g) := by
          simp only [Sum.elim_inl] at h
          refine ev_rn (n := 1) (i2 := 37) (L2 := []) (st2 := [.int (1 : Int32)]) (g2 := g) cdE_23 rfl ?_
          cases h
          exact ev_ret rfl rt_1
        exact ev_wk (L := [some (.ref 1), some (.ref p0), some (.int (g.1 1 4))]) (lp_ind (P := (fun (s : Int32) => Ev Lx 23 cd_23 17 [some (.ref 1), some (.ref p0), some (.int s)] [] g (some (.int b), g))) (fun s s2 hs hP => tb_Re_isWord_17 p0 hp0 s g (b := .inl s2) hs hP) (fun s hs => tb_Re_isWord_17 p0 hp0 s g (b := .inr (.inl e7)) hs hX8) _ _ he7) ⟨rfl, ⟨rfl, ⟨rfl, trivial⟩⟩⟩
      | inr re7 =>
        simp only [Sum.elim_inr] at h
        cases h
        exact ev_wk (L := [some (.ref 1), some (.ref p0), some (.int (g.1 1 4))]) (lp_ind (P := (fun (s : Int32) => Ev Lx 23 cd_23 17 [some (.ref 1), some (.ref p0), some (.int s)] [] g (some (.int b), g))) (fun s s2 hs hP => tb_Re_isWord_17 p0 hp0 s g (b := .inl s2) hs hP) (fun s hs => tb_Re_isWord_17 p0 hp0 s g (b := .inr (.inr b)) hs rfl) _ _ he7) ⟨rfl, ⟨rfl, ⟨rfl, trivial⟩⟩⟩
    · rw [if_neg hc2] at h
      refine ev_iff rfl (cn_f hc2) ?_
      refine ev_rn (n := 1) (i2 := 13) (L2 := [some (.ref 1), some (.ref p0)]) (st2 := [.int (0 : Int32)]) (g2 := g) cdE_23 rfl ?_
      cases h
      exact ev_ret rfl rt_0
  · rw [if_neg hc1] at h
    refine ev_ift cdE_23 rfl (cn_t hc1) ?_
    refine ev_rn (n := 1) (i2 := 13) (L2 := [some (.ref 1), some (.ref p0)]) (st2 := [.int (0 : Int32)]) (g2 := g) cdE_23 rfl ?_
    cases h
    exact ev_ret rfl rt_0
def f_Re_blame (p0 : Int32) (g : M2) : Option (M2) := (if (g.1 1 7) = 0 then (bd (uI g 1 7 p0) fun g2 => (bd (uI g2 1 8 (g2.1 1 4)) fun g3 => some g3)) else some g)
theorem e_Re_blame {Lx : Nat} (p0 : Int32)  (g : M2) {b : M2} (h : f_Re_blame p0 g = some b) : Ev Lx 24 cd_24 0 [some (.ref 1), some (.int p0)] [] g (none, b) := by
  unfold f_Re_blame at h
  refine ev_rn (n := 2) (i2 := 2) (L2 := [some (.ref 1), some (.int p0)]) (st2 := [.int (g.1 1 7)]) (g2 := g) cdE_24 rfl ?_
  by_cases hc1 : (g.1 1 7) = 0
  · rw [if_pos hc1] at h
    refine ev_zff rfl (cn_f (fun q => q hc1)) ?_
    refine ev_rn (n := 2) (i2 := 5) (L2 := [some (.ref 1), some (.int p0)]) (st2 := [.int p0, .ref 1]) (g2 := g) cdE_24 rfl ?_
    refine bd_elim h (fun g2 hg2 h => ?_)
    refine ev_pf (g2 := g2) rfl (rfl : S0[1]? = some _) (by decide) (by rw [hg2] <;> rfl) ?_
    refine ev_rn (n := 3) (i2 := 9) (L2 := [some (.ref 1), some (.int p0)]) (st2 := [.int (g2.1 1 4), .ref 1]) (g2 := g2) cdE_24 rfl ?_
    refine bd_elim h (fun g3 hg3 h => ?_)
    refine ev_pf (g2 := g3) rfl (rfl : S0[1]? = some _) (by decide) (by rw [hg3] <;> rfl) ?_
    cases h
    exact ev_ret rfl rfl
  · rw [if_neg hc1] at h
    refine ev_zft cdE_24 rfl (cn_t hc1) ?_
    cases h
    exact ev_ret rfl rfl
def f_Re_expectWord (p0 : Nat) (g : M2) : Option (M2) := ((f_Re_isWord p0 g).bind fun q1 => (if q1 = 0 then ((f_Re_blame (1 : Int32) g).bind fun q4 => ((f_Re_nextToken q4).bind fun q5 => some q5)) else ((f_Re_nextToken g).bind fun q3 => some q3)))
theorem e_Re_expectWord {Lx : Nat} (p0 : Nat) (hp0 : IsStr p0) (g : M2) {b : M2} (h : f_Re_expectWord p0 g = some b) : Ev Lx 25 cd_25 0 [some (.ref 1), some (.ref p0)] [] g (none, b) := by
  unfold f_Re_expectWord at h
  refine ev_rn (n := 2) (i2 := 2) (L2 := [some (.ref 1), some (.ref p0)]) (st2 := [.ref p0, .ref 1]) (g2 := g) cdE_25 rfl ?_
  obtain ⟨q1, hq1, h⟩ := Option.bind_eq_some_iff.mp h
  refine ev_call rfl cdE_23 rfl rfl rfl (e_Re_isWord p0 hp0 g hq1) ?_
  by_cases hc2 : q1 = 0
  · rw [if_pos hc2] at h
    refine ev_zff rfl (cn_f (fun q => q hc2)) ?_
    refine ev_rn (n := 2) (i2 := 6) (L2 := [some (.ref 1), some (.ref p0)]) (st2 := [.int (1 : Int32), .ref 1]) (g2 := g) cdE_25 rfl ?_
    obtain ⟨q4, hq4, h⟩ := Option.bind_eq_some_iff.mp h
    refine ev_call rfl cdE_24 rfl rfl rfl (e_Re_blame (1 : Int32)  g hq4) ?_
    refine ev_rn (n := 1) (i2 := 8) (L2 := [some (.ref 1), some (.ref p0)]) (st2 := [.ref 1]) (g2 := q4) cdE_25 rfl ?_
    obtain ⟨q5, hq5, h⟩ := Option.bind_eq_some_iff.mp h
    refine ev_call rfl cdE_22 rfl rfl rfl (e_Re_nextToken   q4 hq5) ?_
    cases h
    exact ev_ret rfl rfl
  · rw [if_neg hc2] at h
    refine ev_zft cdE_25 rfl (cn_t hc2) ?_
    refine ev_rn (n := 1) (i2 := 8) (L2 := [some (.ref 1), some (.ref p0)]) (st2 := [.ref 1]) (g2 := g) cdE_25 rfl ?_
    obtain ⟨q3, hq3, h⟩ := Option.bind_eq_some_iff.mp h
    refine ev_call rfl cdE_22 rfl rfl rfl (e_Re_nextToken   g hq3) ?_
    cases h
    exact ev_ret rfl rfl
def f_Re_expectNumber (p0 : Int32) (p1 : Int32) (g : M2) : Option (Int32 × M2) := (if (g.1 1 5) = (2 : Int32) then (if (g.1 1 6) < p0 then ((f_Re_blame (2 : Int32) g).bind fun q3 => (if (q3.1 1 7) = 0 then some ((1 : Int32), q3) else some ((0 : Int32), q3))) else (if (g.1 1 6) ≤ p1 then (if (g.1 1 7) = 0 then some ((1 : Int32), g) else some ((0 : Int32), g)) else ((f_Re_blame (2 : Int32) g).bind fun q7 => (if (q7.1 1 7) = 0 then some ((1 : Int32), q7) else some ((0 : Int32), q7))))) else ((f_Re_blame (1 : Int32) g).bind fun q9 => (if (q9.1 1 7) = 0 then some ((1 : Int32), q9) else some ((0 : Int32), q9))))
theorem e_Re_expectNumber {Lx : Nat} (p0 : Int32) (p1 : Int32)  (g : M2) {b : (Int32 × M2)} (h : f_Re_expectNumber p0 p1 g = some b) : Ev Lx 26 cd_26 0 [some (.ref 1), some (.int p0), some (.int p1)] [] g (some (.int b.1), b.2) := by
  unfold f_Re_expectNumber at h
  refine ev_rn (n := 3) (i2 := 3) (L2 := [some (.ref 1), some (.int p0), some (.int p1)]) (st2 := [.int (2 : Int32), .int (g.1 1 5)]) (g2 := g) cdE_26 rfl ?_
  by_cases hc1 : (g.1 1 5) = (2 : Int32)
  · rw [if_pos hc1] at h
    refine ev_ift cdE_26 rfl (cn_t hc1) ?_
    refine ev_rn (n := 3) (i2 := 11) (L2 := [some (.ref 1), some (.int p0), some (.int p1)]) (st2 := [.int p0, .int (g.1 1 6)]) (g2 := g) cdE_26 rfl ?_
    by_cases hc2 : (g.1 1 6) < p0
    · rw [if_pos hc2] at h
      refine ev_ift cdE_26 rfl (cn_t hc2) ?_
      refine ev_rn (n := 2) (i2 := 18) (L2 := [some (.ref 1), some (.int p0), some (.int p1)]) (st2 := [.int (2 : Int32), .ref 1]) (g2 := g) cdE_26 rfl ?_
      obtain ⟨q3, hq3, h⟩ := Option.bind_eq_some_iff.mp h
      refine ev_call rfl cdE_24 rfl rfl rfl (e_Re_blame (2 : Int32)  g hq3) ?_
      refine ev_rn (n := 2) (i2 := 21) (L2 := [some (.ref 1), some (.int p0), some (.int p1)]) (st2 := [.int (q3.1 1 7)]) (g2 := q3) cdE_26 rfl ?_
      by_cases hc4 : (q3.1 1 7) = 0
      · rw [if_pos hc4] at h
        refine ev_zff rfl (cn_f (fun q => q hc4)) ?_
        refine ev_rn (n := 2) (i2 := 25) (L2 := [some (.ref 1), some (.int p0), some (.int p1)]) (st2 := [.int (1 : Int32)]) (g2 := q3) cdE_26 rfl ?_
        cases h
        exact ev_ret rfl rt_1
      · rw [if_neg hc4] at h
        refine ev_zft cdE_26 rfl (cn_t hc4) ?_
        refine ev_rn (n := 1) (i2 := 25) (L2 := [some (.ref 1), some (.int p0), some (.int p1)]) (st2 := [.int (0 : Int32)]) (g2 := q3) cdE_26 rfl ?_
        cases h
        exact ev_ret rfl rt_0
    · rw [if_neg hc2] at h
      refine ev_iff rfl (cn_f hc2) ?_
      refine ev_rn (n := 3) (i2 := 15) (L2 := [some (.ref 1), some (.int p0), some (.int p1)]) (st2 := [.int p1, .int (g.1 1 6)]) (g2 := g) cdE_26 rfl ?_
      by_cases hc5 : (g.1 1 6) ≤ p1
      · rw [if_pos hc5] at h
        refine ev_ift cdE_26 rfl (cn_t hc5) ?_
        refine ev_rn (n := 2) (i2 := 21) (L2 := [some (.ref 1), some (.int p0), some (.int p1)]) (st2 := [.int (g.1 1 7)]) (g2 := g) cdE_26 rfl ?_
        by_cases hc6 : (g.1 1 7) = 0
        · rw [if_pos hc6] at h
          refine ev_zff rfl (cn_f (fun q => q hc6)) ?_
          refine ev_rn (n := 2) (i2 := 25) (L2 := [some (.ref 1), some (.int p0), some (.int p1)]) (st2 := [.int (1 : Int32)]) (g2 := g) cdE_26 rfl ?_
          cases h
          exact ev_ret rfl rt_1
        · rw [if_neg hc6] at h
          refine ev_zft cdE_26 rfl (cn_t hc6) ?_
          refine ev_rn (n := 1) (i2 := 25) (L2 := [some (.ref 1), some (.int p0), some (.int p1)]) (st2 := [.int (0 : Int32)]) (g2 := g) cdE_26 rfl ?_
          cases h
          exact ev_ret rfl rt_0
      · rw [if_neg hc5] at h
        refine ev_iff rfl (cn_f hc5) ?_
        refine ev_rn (n := 2) (i2 := 18) (L2 := [some (.ref 1), some (.int p0), some (.int p1)]) (st2 := [.int (2 : Int32), .ref 1]) (g2 := g) cdE_26 rfl ?_
        obtain ⟨q7, hq7, h⟩ := Option.bind_eq_some_iff.mp h
        refine ev_call rfl cdE_24 rfl rfl rfl (e_Re_blame (2 : Int32)  g hq7) ?_
        refine ev_rn (n := 2) (i2 := 21) (L2 := [some (.ref 1), some (.int p0), some (.int p1)]) (st2 := [.int (q7.1 1 7)]) (g2 := q7) cdE_26 rfl ?_
        by_cases hc8 : (q7.1 1 7) = 0
        · rw [if_pos hc8] at h
          refine ev_zff rfl (cn_f (fun q => q hc8)) ?_
          refine ev_rn (n := 2) (i2 := 25) (L2 := [some (.ref 1), some (.int p0), some (.int p1)]) (st2 := [.int (1 : Int32)]) (g2 := q7) cdE_26 rfl ?_
          cases h
          exact ev_ret rfl rt_1
        · rw [if_neg hc8] at h
          refine ev_zft cdE_26 rfl (cn_t hc8) ?_
          refine ev_rn (n := 1) (i2 := 25) (L2 := [some (.ref 1), some (.int p0), some (.int p1)]) (st2 := [.int (0 : Int32)]) (g2 := q7) cdE_26 rfl ?_
          cases h
          exact ev_ret rfl rt_0
  · rw [if_neg hc1] at h
    refine ev_iff rfl (cn_f hc1) ?_
    refine ev_rn (n := 2) (i2 := 6) (L2 := [some (.ref 1), some (.int p0), some (.int p1)]) (st2 := [.int (1 : Int32), .ref 1]) (g2 := g) cdE_26 rfl ?_
    obtain ⟨q9, hq9, h⟩ := Option.bind_eq_some_iff.mp h
    refine ev_call rfl cdE_24 rfl rfl rfl (e_Re_blame (1 : Int32)  g hq9) ?_
    refine ev_rn (n := 3) (i2 := 21) (L2 := [some (.ref 1), some (.int p0), some (.int p1)]) (st2 := [.int (q9.1 1 7)]) (g2 := q9) cdE_26 rfl ?_
    by_cases hc10 : (q9.1 1 7) = 0
    · rw [if_pos hc10] at h
      refine ev_zff rfl (cn_f (fun q => q hc10)) ?_
      refine ev_rn (n := 2) (i2 := 25) (L2 := [some (.ref 1), some (.int p0), some (.int p1)]) (st2 := [.int (1 : Int32)]) (g2 := q9) cdE_26 rfl ?_
      cases h
      exact ev_ret rfl rt_1
    · rw [if_neg hc10] at h
      refine ev_zft cdE_26 rfl (cn_t hc10) ?_
      refine ev_rn (n := 1) (i2 := 25) (L2 := [some (.ref 1), some (.int p0), some (.int p1)]) (st2 := [.int (0 : Int32)]) (g2 := q9) cdE_26 rfl ?_
      cases h
      exact ev_ret rfl rt_0
def f_Re_readFirstLine  (g : M2) : Option (M2) := ((f_Re_expectWord 1003 g).bind fun q1 => ((f_Re_expectWord 1004 q1).bind fun q2 => ((f_Re_expectNumber (1 : Int32) (99 : Int32) q2).bind fun q3 => (if q3.1 = 0 then some q3.2 else (bd (uI q3.2 3 6 (q3.2.1 1 6)) fun g5 => ((f_Re_nextToken g5).bind fun q6 => some q6))))))
theorem e_Re_readFirstLine {Lx : Nat}   (g : M2) {b : M2} (h : f_Re_readFirstLine  g = some b) : Ev Lx 27 cd_27 0 [some (.ref 1)] [] g (none, b) := by
  unfold f_Re_readFirstLine at h
  refine ev_rn (n := 2) (i2 := 2) (L2 := [some (.ref 1)]) (st2 := [.ref 1003, .ref 1]) (g2 := g) cdE_27 rfl ?_
  obtain ⟨q1, hq1, h⟩ := Option.bind_eq_some_iff.mp h
  refine ev_call rfl cdE_25 rfl rfl rfl (e_Re_expectWord 1003 (by decide) g hq1) ?_
  refine ev_rn (n := 2) (i2 := 5) (L2 := [some (.ref 1)]) (st2 := [.ref 1004, .ref 1]) (g2 := q1) cdE_27 rfl ?_
  obtain ⟨q2, hq2, h⟩ := Option.bind_eq_some_iff.mp h
  refine ev_call rfl cdE_25 rfl rfl rfl (e_Re_expectWord 1004 (by decide) q1 hq2) ?_
  refine ev_rn (n := 3) (i2 := 9) (L2 := [some (.ref 1)]) (st2 := [.int (99 : Int32), .int (1 : Int32), .ref 1]) (g2 := q2) cdE_27 rfl ?_
  obtain ⟨q3, hq3, h⟩ := Option.bind_eq_some_iff.mp h
  refine ev_call rfl cdE_26 rfl rfl rfl (e_Re_expectNumber (1 : Int32) (99 : Int32)  q2 hq3) ?_
  by_cases hc4 : q3.1 = 0
  · rw [if_pos hc4] at h
    refine ev_zft cdE_27 rfl (cn_t hc4) ?_
    cases h
    exact ev_ret rfl rfl
  · rw [if_neg hc4] at h
    refine ev_zff rfl (cn_f hc4) ?_
    refine ev_rn (n := 4) (i2 := 15) (L2 := [some (.ref 1)]) (st2 := [.int (q3.2.1 1 6), .ref 3]) (g2 := q3.2) cdE_27 rfl ?_
    refine bd_elim h (fun g5 hg5 h => ?_)
    refine ev_pf (g2 := g5) rfl (rfl : S0[3]? = some _) (by decide) (by rw [hg5] <;> rfl) ?_
    refine ev_rn (n := 1) (i2 := 17) (L2 := [some (.ref 1)]) (st2 := [.ref 1]) (g2 := g5) cdE_27 rfl ?_
    obtain ⟨q6, hq6, h⟩ := Option.bind_eq_some_iff.mp h
    refine ev_call rfl cdE_22 rfl rfl rfl (e_Re_nextToken   g5 hq6) ?_
    cases h
    exact ev_ret rfl rfl
def b_Pl_elementAt_2 (v0 : Nat) (v1 : Int32) (v2 : Int32) (g : M2) : Option (Int32 ⊕ (Unit ⊕ Int32)) := (if (g.1 v0 2) ≤ v2 then some (.inr (.inl ())) else (if inb v2 5 then (if (g.1 (v0 + 1) v2.toNatClampNeg) = v1 then some (.inr (.inr v2)) else some (.inl (v2 + (1 : Int32)))) else none))
theorem tb_Pl_elementAt_2 {Lx : Nat} (v0 : Nat) (v1 : Int32) (hv0 : IsPlan v0) (v2 : Int32) (g : M2) {b : Int32 ⊕ (Unit ⊕ Int32)} {o : Option Value × M2} (h : b_Pl_elementAt_2 v0 v1 v2 g = some b) (hb : Sum.elim (fun s => Ev Lx 28 cd_28 2 [some (.ref v0), some (.int v1), some (.int s)] [] g o) (Sum.elim (fun e => Ev Lx 28 cd_28 16 [] [] g o) (fun r => o = (some (.int r), g))) b) : Ev Lx 28 cd_28 2 [some (.ref v0), some (.int v1), some (.int v2)] [] g o := by
  unfold b_Pl_elementAt_2 at h
  refine ev_rn (n := 2) (i2 := 4) (L2 := [some (.ref v0), some (.int v1), some (.int v2)]) (st2 := [.ref v0, .int v2]) (g2 := g) cdE_28 rfl ?_
  refine ev_gf (v := .int (g.1 v0 2)) rfl (pl_at hv0) (by decide) rfl ?_
  by_cases hc1 : (g.1 v0 2) ≤ v2
  · rw [if_pos hc1] at h
    refine ev_ift cdE_28 rfl (cn_t hc1) ?_
    cases h
    exact ev_wk (L := []) hb trivial
  · rw [if_neg hc1] at h
    refine ev_iff rfl (cn_f hc1) ?_
    refine ev_rn (n := 1) (i2 := 7) (L2 := [some (.ref v0), some (.int v1), some (.int v2)]) (st2 := [.ref v0]) (g2 := g) cdE_28 rfl ?_
    refine ev_gf (v := .ref (v0 + 1)) rfl (pl_at hv0) (by decide) rfl ?_
    refine ev_rn (n := 1) (i2 := 9) (L2 := [some (.ref v0), some (.int v1), some (.int v2)]) (st2 := [.int v2, .ref (v0 + 1)]) (g2 := g) cdE_28 rfl ?_
    by_cases hi2 : inb v2 5
    · rw [if_pos hi2] at h
      refine ev_iaload (v := .int (g.1 (v0 + 1) v2.toNatClampNeg)) rfl (kd_of (pl_1 hv0)) (by decide) hi2 rfl ?_
      refine ev_rn (n := 1) (i2 := 11) (L2 := [some (.ref v0), some (.int v1), some (.int v2)]) (st2 := [.int v1, .int (g.1 (v0 + 1) v2.toNatClampNeg)]) (g2 := g) cdE_28 rfl ?_
      by_cases hc3 : (g.1 (v0 + 1) v2.toNatClampNeg) = v1
      · rw [if_pos hc3] at h
        refine ev_iff rfl (cn_f (fun q => q hc3)) ?_
        refine ev_rn (n := 1) (i2 := 13) (L2 := [some (.ref v0), some (.int v1), some (.int v2)]) (st2 := [.int v2]) (g2 := g) cdE_28 rfl ?_
        cases h
        cases hb
        exact ev_ret rfl rfl
      · rw [if_neg hc3] at h
        refine ev_ift cdE_28 rfl (cn_t hc3) ?_
        refine ev_rn (n := 2) (i2 := 2) (L2 := [some (.ref v0), some (.int v1), some (.int (v2 + (1 : Int32)))]) (st2 := []) (g2 := g) cdE_28 rfl ?_
        cases h
        exact ev_wk (L := [some (.ref v0), some (.int v1), some (.int (v2 + (1 : Int32)))]) hb ⟨rfl, ⟨rfl, ⟨rfl, trivial⟩⟩⟩
    · rw [if_neg hi2] at h
      cases h
def f_Pl_elementAt (a0 : Nat) (p0 : Int32) (g : M2) : Option (Int32) := ((lp (fun s => b_Pl_elementAt_2 a0 p0 s g) 5000 (0 : Int32)).bind fun ue4 => Sum.elim (fun e4 => some (-1 : Int32)) (fun re4 => some re4) ue4)
theorem e_Pl_elementAt {Lx : Nat} (a0 : Nat) (p0 : Int32) (ha0 : IsPlan a0) (g : M2) {b : Int32} (h : f_Pl_elementAt a0 p0 g = some b) : Ev Lx 28 cd_28 0 [some (.ref a0), some (.int p0)] [] g (some (.int b), g) := by
  unfold f_Pl_elementAt at h
  refine ev_rn (n := 2) (i2 := 2) (L2 := [some (.ref a0), some (.int p0), some (.int (0 : Int32))]) (st2 := []) (g2 := g) cdE_28 rfl ?_
  obtain ⟨ue4, he4, h⟩ := Option.bind_eq_some_iff.mp h
  cases ue4 with
  | inl e4 =>
    replace h := h
    have hX5 : Ev Lx 28 cd_28 16 [] [] g (some (.int b), g) := by
      simp only [Sum.elim_inl] at h
      refine ev_rn (n := 1) (i2 := 17) (L2 := []) (st2 := [.int (-1 : Int32)]) (g2 := g) cdE_28 rfl ?_
      cases h
      exact ev_ret rfl rfl
    exact ev_wk (L := [some (.ref a0), some (.int p0), some (.int (0 : Int32))]) (lp_ind (P := (fun (s : Int32) => Ev Lx 28 cd_28 2 [some (.ref a0), some (.int p0), some (.int s)] [] g (some (.int b), g))) (fun s s2 hs hP => tb_Pl_elementAt_2 a0 p0 ha0 s g (b := .inl s2) hs hP) (fun s hs => tb_Pl_elementAt_2 a0 p0 ha0 s g (b := .inr (.inl e4)) hs hX5) _ _ he4) ⟨rfl, ⟨rfl, ⟨rfl, trivial⟩⟩⟩
  | inr re4 =>
    simp only [Sum.elim_inr] at h
    cases h
    exact ev_wk (L := [some (.ref a0), some (.int p0), some (.int (0 : Int32))]) (lp_ind (P := (fun (s : Int32) => Ev Lx 28 cd_28 2 [some (.ref a0), some (.int p0), some (.int s)] [] g (some (.int b), g))) (fun s s2 hs hP => tb_Pl_elementAt_2 a0 p0 ha0 s g (b := .inl s2) hs hP) (fun s hs => tb_Pl_elementAt_2 a0 p0 ha0 s g (b := .inr (.inr b)) hs rfl) _ _ he4) ⟨rfl, ⟨rfl, ⟨rfl, trivial⟩⟩⟩
def f_Pl_addElement (a0 : Nat) (p0 : Int32) (p1 : Int32) (g : M2) : Option (M2) := (if (5 : Int32) ≤ (g.1 a0 2) then some g else (if inb (g.1 a0 2) 5 then (bd (uI g (a0 + 1) (g.1 a0 2).toNatClampNeg p0) fun g2 => (if p1 = 0 then (bd (uI g2 a0 2 ((g2.1 a0 2) + (1 : Int32))) fun g4 => some g4) else (bd (uI g2 a0 3 ((g2.1 a0 3) ||| ((1 : Int32) <<< ((g2.1 a0 2) &&& 31)))) fun g5 => (bd (uI g5 a0 2 ((g5.1 a0 2) + (1 : Int32))) fun g6 => some g6)))) else none))
theorem e_Pl_addElement {Lx : Nat} (a0 : Nat) (p0 : Int32) (p1 : Int32) (ha0 : IsPlan a0) (g : M2) {b : M2} (h : f_Pl_addElement a0 p0 p1 g = some b) : Ev Lx 29 cd_29 0 [some (.ref a0), some (.int p0), some (.int p1)] [] g (none, b) := by
  unfold f_Pl_addElement at h
  refine ev_rn (n := 1) (i2 := 1) (L2 := [some (.ref a0), some (.int p0), some (.int p1)]) (st2 := [.ref a0]) (g2 := g) cdE_29 rfl ?_
  refine ev_gf (v := .int (g.1 a0 2)) rfl (pl_at ha0) (by decide) rfl ?_
  refine ev_rn (n := 1) (i2 := 3) (L2 := [some (.ref a0), some (.int p0), some (.int p1)]) (st2 := [.int (5 : Int32), .int (g.1 a0 2)]) (g2 := g) cdE_29 rfl ?_
  by_cases hc1 : (5 : Int32) ≤ (g.1 a0 2)
  · rw [if_pos hc1] at h
    refine ev_ift cdE_29 rfl (cn_t hc1) ?_
    cases h
    exact ev_ret rfl rfl
  · rw [if_neg hc1] at h
    refine ev_iff rfl (cn_f hc1) ?_
    refine ev_rn (n := 1) (i2 := 5) (L2 := [some (.ref a0), some (.int p0), some (.int p1)]) (st2 := [.ref a0]) (g2 := g) cdE_29 rfl ?_
    refine ev_gf (v := .ref (a0 + 1)) rfl (pl_at ha0) (by decide) rfl ?_
    refine ev_rn (n := 1) (i2 := 7) (L2 := [some (.ref a0), some (.int p0), some (.int p1)]) (st2 := [.ref a0, .ref (a0 + 1)]) (g2 := g) cdE_29 rfl ?_
    refine ev_gf (v := .int (g.1 a0 2)) rfl (pl_at ha0) (by decide) rfl ?_
    refine ev_rn (n := 1) (i2 := 9) (L2 := [some (.ref a0), some (.int p0), some (.int p1)]) (st2 := [.int p0, .int (g.1 a0 2), .ref (a0 + 1)]) (g2 := g) cdE_29 rfl ?_
    by_cases hi7 : inb (g.1 a0 2) 5
    · rw [if_pos hi7] at h
      refine bd_elim h (fun g2 hg2 h => ?_)
      refine ev_iastore (g2 := g2) rfl (pl_1 ha0) (by decide) hi7 (by rw [hg2] <;> rfl) ?_
      refine ev_rn (n := 1) (i2 := 11) (L2 := [some (.ref a0), some (.int p0), some (.int p1)]) (st2 := [.int p1]) (g2 := g2) cdE_29 rfl ?_
      by_cases hc3 : p1 = 0
      · rw [if_pos hc3] at h
        refine ev_zft cdE_29 rfl (cn_t hc3) ?_
        refine ev_rn (n := 2) (i2 := 23) (L2 := [some (.ref a0), some (.int p0), some (.int p1)]) (st2 := [.ref a0, .ref a0]) (g2 := g2) cdE_29 rfl ?_
        refine ev_gf (v := .int (g2.1 a0 2)) rfl (pl_at ha0) (by decide) rfl ?_
        refine ev_rn (n := 2) (i2 := 26) (L2 := [some (.ref a0), some (.int p0), some (.int p1)]) (st2 := [.int ((g2.1 a0 2) + (1 : Int32)), .ref a0]) (g2 := g2) cdE_29 rfl ?_
        refine bd_elim h (fun g4 hg4 h => ?_)
        refine ev_pf (g2 := g4) rfl (pl_at ha0) (by decide) (by rw [hg4] <;> rfl) ?_
        cases h
        exact ev_ret rfl rfl
      · rw [if_neg hc3] at h
        refine ev_zff rfl (cn_f hc3) ?_
        refine ev_rn (n := 2) (i2 := 14) (L2 := [some (.ref a0), some (.int p0), some (.int p1)]) (st2 := [.ref a0, .ref a0]) (g2 := g2) cdE_29 rfl ?_
        refine ev_gf (v := .int (g2.1 a0 3)) rfl (pl_at ha0) (by decide) rfl ?_
        refine ev_rn (n := 2) (i2 := 17) (L2 := [some (.ref a0), some (.int p0), some (.int p1)]) (st2 := [.ref a0, .int (1 : Int32), .int (g2.1 a0 3), .ref a0]) (g2 := g2) cdE_29 rfl ?_
        refine ev_gf (v := .int (g2.1 a0 2)) rfl (pl_at ha0) (by decide) rfl ?_
        refine ev_rn (n := 2) (i2 := 20) (L2 := [some (.ref a0), some (.int p0), some (.int p1)]) (st2 := [.int ((g2.1 a0 3) ||| ((1 : Int32) <<< ((g2.1 a0 2) &&& 31))), .ref a0]) (g2 := g2) cdE_29 rfl ?_
        refine bd_elim h (fun g5 hg5 h => ?_)
        refine ev_pf (g2 := g5) rfl (pl_at ha0) (by decide) (by rw [hg5] <;> rfl) ?_
        refine ev_rn (n := 2) (i2 := 23) (L2 := [some (.ref a0), some (.int p0), some (.int p1)]) (st2 := [.ref a0, .ref a0]) (g2 := g5) cdE_29 rfl ?_
        refine ev_gf (v := .int (g5.1 a0 2)) rfl (pl_at ha0) (by decide) rfl ?_
        refine ev_rn (n := 2) (i2 := 26) (L2 := [some (.ref a0), some (.int p0), some (.int p1)]) (st2 := [.int ((g5.1 a0 2) + (1 : Int32)), .ref a0]) (g2 := g5) cdE_29 rfl ?_
        refine bd_elim h (fun g6 hg6 h => ?_)
        refine ev_pf (g2 := g6) rfl (pl_at ha0) (by decide) (by rw [hg6] <;> rfl) ?_
        cases h
        exact ev_ret rfl rfl
    · rw [if_neg hi7] at h
      cases h
def j_Re_readElement_8 (v1 : Int32) (g : M2) : Option (M2) := ((f_Re_nextToken g).bind fun q2 => ((f_Re_expectNumber (0 : Int32) (11 : Int32) q2).bind fun q3 => (if q3.1 = 0 then some q3.2 else ((f_Pl_elementAt 3 (q3.2.1 1 6) q3.2).bind fun q5 => (if q5 = (-1 : Int32) then ((f_Pl_addElement 3 (q3.2.1 1 6) v1 q3.2).bind fun q7 => ((f_Re_nextToken q7).bind fun q8 => some q8)) else ((f_Re_blame (2 : Int32) q3.2).bind fun q9 => ((f_Pl_addElement 3 (q9.1 1 6) v1 q9).bind fun q10 => ((f_Re_nextToken q10).bind fun q11 => some q11))))))))
theorem tj_Re_readElement_8 {Lx : Nat}  (v1 : Int32)  (g : M2) {b : M2} (h : j_Re_readElement_8 v1 g = some b) : Ev Lx 30 cd_30 8 [some (.ref 1), some (.int v1)] [] g (none, b) := by
  unfold j_Re_readElement_8 at h
  refine ev_rn (n := 1) (i2 := 9) (L2 := [some (.ref 1), some (.int v1)]) (st2 := [.ref 1]) (g2 := g) cdE_30 rfl ?_
  obtain ⟨q2, hq2, h⟩ := Option.bind_eq_some_iff.mp h
  refine ev_call rfl cdE_22 rfl rfl rfl (e_Re_nextToken   g hq2) ?_
  refine ev_rn (n := 3) (i2 := 13) (L2 := [some (.ref 1), some (.int v1)]) (st2 := [.int (11 : Int32), .int (0 : Int32), .ref 1]) (g2 := q2) cdE_30 rfl ?_
  obtain ⟨q3, hq3, h⟩ := Option.bind_eq_some_iff.mp h
  refine ev_call rfl cdE_26 rfl rfl rfl (e_Re_expectNumber (0 : Int32) (11 : Int32)  q2 hq3) ?_
  by_cases hc4 : q3.1 = 0
  · rw [if_pos hc4] at h
    refine ev_zft cdE_30 rfl (cn_t hc4) ?_
    cases h
    exact ev_ret rfl rfl
  · rw [if_neg hc4] at h
    refine ev_zff rfl (cn_f hc4) ?_
    refine ev_rn (n := 4) (i2 := 19) (L2 := [some (.ref 1), some (.int v1)]) (st2 := [.int (q3.2.1 1 6), .ref 3]) (g2 := q3.2) cdE_30 rfl ?_
    obtain ⟨q5, hq5, h⟩ := Option.bind_eq_some_iff.mp h
    refine ev_call rfl cdE_28 rfl rfl rfl (e_Pl_elementAt 3 (q3.2.1 1 6) (by decide) q3.2 hq5) ?_
    refine ev_rn (n := 1) (i2 := 21) (L2 := [some (.ref 1), some (.int v1)]) (st2 := [.int (-1 : Int32), .int q5]) (g2 := q3.2) cdE_30 rfl ?_
    by_cases hc6 : q5 = (-1 : Int32)
    · rw [if_pos hc6] at h
      refine ev_ift cdE_30 rfl (cn_t hc6) ?_
      refine ev_rn (n := 5) (i2 := 30) (L2 := [some (.ref 1), some (.int v1)]) (st2 := [.int v1, .int (q3.2.1 1 6), .ref 3]) (g2 := q3.2) cdE_30 rfl ?_
      obtain ⟨q7, hq7, h⟩ := Option.bind_eq_some_iff.mp h
      refine ev_call rfl cdE_29 rfl rfl rfl (e_Pl_addElement 3 (q3.2.1 1 6) v1 (by decide) q3.2 hq7) ?_
      refine ev_rn (n := 1) (i2 := 32) (L2 := [some (.ref 1), some (.int v1)]) (st2 := [.ref 1]) (g2 := q7) cdE_30 rfl ?_
      obtain ⟨q8, hq8, h⟩ := Option.bind_eq_some_iff.mp h
      refine ev_call rfl cdE_22 rfl rfl rfl (e_Re_nextToken   q7 hq8) ?_
      cases h
      exact ev_ret rfl rfl
    · rw [if_neg hc6] at h
      refine ev_iff rfl (cn_f hc6) ?_
      refine ev_rn (n := 2) (i2 := 24) (L2 := [some (.ref 1), some (.int v1)]) (st2 := [.int (2 : Int32), .ref 1]) (g2 := q3.2) cdE_30 rfl ?_
      obtain ⟨q9, hq9, h⟩ := Option.bind_eq_some_iff.mp h
      refine ev_call rfl cdE_24 rfl rfl rfl (e_Re_blame (2 : Int32)  q3.2 hq9) ?_
      refine ev_rn (n := 5) (i2 := 30) (L2 := [some (.ref 1), some (.int v1)]) (st2 := [.int v1, .int (q9.1 1 6), .ref 3]) (g2 := q9) cdE_30 rfl ?_
      obtain ⟨q10, hq10, h⟩ := Option.bind_eq_some_iff.mp h
      refine ev_call rfl cdE_29 rfl rfl rfl (e_Pl_addElement 3 (q9.1 1 6) v1 (by decide) q9 hq10) ?_
      refine ev_rn (n := 1) (i2 := 32) (L2 := [some (.ref 1), some (.int v1)]) (st2 := [.ref 1]) (g2 := q10) cdE_30 rfl ?_
      obtain ⟨q11, hq11, h⟩ := Option.bind_eq_some_iff.mp h
      refine ev_call rfl cdE_22 rfl rfl rfl (e_Re_nextToken   q10 hq11) ?_
      cases h
      exact ev_ret rfl rfl
def f_Re_readElement (p0 : Int32) (g : M2) : Option (M2) := (if (g.1 3 2) = (5 : Int32) then ((f_Re_blame (3 : Int32) g).bind fun q12 => (j_Re_readElement_8 p0 q12)) else (j_Re_readElement_8 p0 g))
theorem e_Re_readElement {Lx : Nat} (p0 : Int32)  (g : M2) {b : M2} (h : f_Re_readElement p0 g = some b) : Ev Lx 30 cd_30 0 [some (.ref 1), some (.int p0)] [] g (none, b) := by
  unfold f_Re_readElement at h
  refine ev_rn (n := 4) (i2 := 4) (L2 := [some (.ref 1), some (.int p0)]) (st2 := [.int (5 : Int32), .int (g.1 3 2)]) (g2 := g) cdE_30 rfl ?_
  by_cases hc1 : (g.1 3 2) = (5 : Int32)
  · rw [if_pos hc1] at h
    refine ev_iff rfl (cn_f (fun q => q hc1)) ?_
    refine ev_rn (n := 2) (i2 := 7) (L2 := [some (.ref 1), some (.int p0)]) (st2 := [.int (3 : Int32), .ref 1]) (g2 := g) cdE_30 rfl ?_
    obtain ⟨q12, hq12, h⟩ := Option.bind_eq_some_iff.mp h
    refine ev_call rfl cdE_24 rfl rfl rfl (e_Re_blame (3 : Int32)  g hq12) ?_
    exact ev_wk (L := [some (.ref 1), some (.int p0)]) (tj_Re_readElement_8  p0  q12 h) ⟨rfl, ⟨rfl, trivial⟩⟩
  · rw [if_neg hc1] at h
    refine ev_ift cdE_30 rfl (cn_t hc1) ?_
    exact ev_wk (L := [some (.ref 1), some (.int p0)]) (tj_Re_readElement_8  p0  g h) ⟨rfl, ⟨rfl, trivial⟩⟩
def b_Pl_deafBits_4 (v0 : Nat) (v1 : Int32) (v2 : Int32) (g : M2) : Option ((Int32 × Int32) ⊕ Int32) := (if (g.1 v0 5) ≤ v2 then some (.inr v1) else (if inb v2 4 then some (.inl ((v1 ||| ((1 : Int32) <<< ((g.1 (v0 + 2) v2.toNatClampNeg) &&& 31))), (v2 + (1 : Int32)))) else none))
theorem tb_Pl_deafBits_4 {Lx : Nat} (v0 : Nat) (hv0 : IsPlan v0) (v1 : Int32) (v2 : Int32) (g : M2) {b : (Int32 × Int32) ⊕ Int32} {o : Option Value × M2} (h : b_Pl_deafBits_4 v0 v1 v2 g = some b) (hb : Sum.elim (fun s => Ev Lx 31 cd_31 4 [some (.ref v0), some (.int s.1), some (.int s.2)] [] g o) (fun e => Ev Lx 31 cd_31 19 [none, some (.int e)] [] g o) b) : Ev Lx 31 cd_31 4 [some (.ref v0), some (.int v1), some (.int v2)] [] g o := by
  unfold b_Pl_deafBits_4 at h
  refine ev_rn (n := 2) (i2 := 6) (L2 := [some (.ref v0), some (.int v1), some (.int v2)]) (st2 := [.ref v0, .int v2]) (g2 := g) cdE_31 rfl ?_
  refine ev_gf (v := .int (g.1 v0 5)) rfl (pl_at hv0) (by decide) rfl ?_
  by_cases hc1 : (g.1 v0 5) ≤ v2
  · rw [if_pos hc1] at h
    refine ev_ift cdE_31 rfl (cn_t hc1) ?_
    cases h
    exact ev_wk (L := [none, some (.int v1)]) hb ⟨rfl, trivial⟩
  · rw [if_neg hc1] at h
    refine ev_iff rfl (cn_f hc1) ?_
    refine ev_rn (n := 3) (i2 := 11) (L2 := [some (.ref v0), some (.int v1), some (.int v2)]) (st2 := [.ref v0, .int (1 : Int32), .int v1]) (g2 := g) cdE_31 rfl ?_
    refine ev_gf (v := .ref (v0 + 2)) rfl (pl_at hv0) (by decide) rfl ?_
    refine ev_rn (n := 1) (i2 := 13) (L2 := [some (.ref v0), some (.int v1), some (.int v2)]) (st2 := [.int v2, .ref (v0 + 2), .int (1 : Int32), .int v1]) (g2 := g) cdE_31 rfl ?_
    by_cases hi2 : inb v2 4
    · rw [if_pos hi2] at h
      refine ev_iaload (v := .int (g.1 (v0 + 2) v2.toNatClampNeg)) rfl (kd_of (pl_2 hv0)) (by decide) hi2 rfl ?_
      refine ev_rn (n := 4) (i2 := 18) (L2 := [some (.ref v0), some (.int (v1 ||| ((1 : Int32) <<< ((g.1 (v0 + 2) v2.toNatClampNeg) &&& 31)))), some (.int (v2 + (1 : Int32)))]) (st2 := []) (g2 := g) cdE_31 rfl ?_
      refine ev_rn (n := 1) (i2 := 4) (L2 := [some (.ref v0), some (.int (v1 ||| ((1 : Int32) <<< ((g.1 (v0 + 2) v2.toNatClampNeg) &&& 31)))), some (.int (v2 + (1 : Int32)))]) (st2 := []) (g2 := g) cdE_31 rfl ?_
      cases h
      exact ev_wk (L := [some (.ref v0), some (.int (v1 ||| ((1 : Int32) <<< ((g.1 (v0 + 2) v2.toNatClampNeg) &&& 31)))), some (.int (v2 + (1 : Int32)))]) hb ⟨rfl, ⟨rfl, ⟨rfl, trivial⟩⟩⟩
    · rw [if_neg hi2] at h
      cases h
def f_Pl_deafBits (a0 : Nat) (g : M2) : Option (Int32) := ((lp (fun s => b_Pl_deafBits_4 a0 s.1 s.2 g) 5000 ((0 : Int32), (0 : Int32))).bind fun e3 => some e3)
theorem e_Pl_deafBits {Lx : Nat} (a0 : Nat) (ha0 : IsPlan a0) (g : M2) {b : Int32} (h : f_Pl_deafBits a0 g = some b) : Ev Lx 31 cd_31 0 [some (.ref a0)] [] g (some (.int b), g) := by
  unfold f_Pl_deafBits at h
  refine ev_rn (n := 4) (i2 := 4) (L2 := [some (.ref a0), some (.int (0 : Int32)), some (.int (0 : Int32))]) (st2 := []) (g2 := g) cdE_31 rfl ?_
  obtain ⟨e3, he3, h⟩ := Option.bind_eq_some_iff.mp h
  have hX4 : Ev Lx 31 cd_31 19 [none, some (.int e3)] [] g (some (.int b), g) := by
    refine ev_rn (n := 1) (i2 := 20) (L2 := [none, some (.int e3)]) (st2 := [.int e3]) (g2 := g) cdE_31 rfl ?_
    cases h
    exact ev_ret rfl rfl
  exact ev_wk (L := [some (.ref a0), some (.int (0 : Int32)), some (.int (0 : Int32))]) (lp_ind (P := (fun (s : (Int32 × Int32)) => Ev Lx 31 cd_31 4 [some (.ref a0), some (.int s.1), some (.int s.2)] [] g (some (.int b), g))) (fun s s2 hs hP => tb_Pl_deafBits_4 a0 ha0 s.1 s.2 g (b := .inl s2) hs hP) (fun s hs => tb_Pl_deafBits_4 a0 ha0 s.1 s.2 g (b := .inr e3) hs hX4) _ _ he3) ⟨rfl, ⟨rfl, ⟨rfl, trivial⟩⟩⟩
def f_Pl_wishBits (a0 : Nat) (g : M2) : Option (Int32) := (if (g.1 a0 4) = (-1 : Int32) then ((f_Pl_deafBits a0 g).bind fun q3 => some q3) else ((f_Pl_deafBits a0 g).bind fun q2 => some (q2 ||| ((1 : Int32) <<< ((g.1 a0 4) &&& 31)))))
theorem e_Pl_wishBits {Lx : Nat} (a0 : Nat) (ha0 : IsPlan a0) (g : M2) {b : Int32} (h : f_Pl_wishBits a0 g = some b) : Ev Lx 32 cd_32 0 [some (.ref a0)] [] g (some (.int b), g) := by
  unfold f_Pl_wishBits at h
  refine ev_rn (n := 1) (i2 := 1) (L2 := [some (.ref a0)]) (st2 := [.ref a0]) (g2 := g) cdE_32 rfl ?_
  refine ev_gf (v := .int (g.1 a0 4)) rfl (pl_at ha0) (by decide) rfl ?_
  refine ev_rn (n := 1) (i2 := 3) (L2 := [some (.ref a0)]) (st2 := [.int (-1 : Int32), .int (g.1 a0 4)]) (g2 := g) cdE_32 rfl ?_
  by_cases hc1 : (g.1 a0 4) = (-1 : Int32)
  · rw [if_pos hc1] at h
    refine ev_iff rfl (cn_f (fun q => q hc1)) ?_
    refine ev_rn (n := 1) (i2 := 5) (L2 := [some (.ref a0)]) (st2 := [.ref a0]) (g2 := g) cdE_32 rfl ?_
    obtain ⟨q3, hq3, h⟩ := Option.bind_eq_some_iff.mp h
    refine ev_call rfl cdE_31 (cokV rfl rfl (pl_at ha0) rfl) rfl rfl (e_Pl_deafBits a0 ha0 g hq3) ?_
    refine ev_rn (n := 1) (i2 := 14) (L2 := [some (.ref a0)]) (st2 := [.int q3]) (g2 := g) cdE_32 rfl ?_
    cases h
    exact ev_ret rfl rfl
  · rw [if_neg hc1] at h
    refine ev_ift cdE_32 rfl (cn_t hc1) ?_
    refine ev_rn (n := 1) (i2 := 8) (L2 := [some (.ref a0)]) (st2 := [.ref a0]) (g2 := g) cdE_32 rfl ?_
    obtain ⟨q2, hq2, h⟩ := Option.bind_eq_some_iff.mp h
    refine ev_call rfl cdE_31 (cokV rfl rfl (pl_at ha0) rfl) rfl rfl (e_Pl_deafBits a0 ha0 g hq2) ?_
    refine ev_rn (n := 2) (i2 := 11) (L2 := [some (.ref a0)]) (st2 := [.ref a0, .int (1 : Int32), .int q2]) (g2 := g) cdE_32 rfl ?_
    refine ev_gf (v := .int (g.1 a0 4)) rfl (pl_at ha0) (by decide) rfl ?_
    refine ev_rn (n := 2) (i2 := 14) (L2 := [some (.ref a0)]) (st2 := [.int (q2 ||| ((1 : Int32) <<< ((g.1 a0 4) &&& 31)))]) (g2 := g) cdE_32 rfl ?_
    cases h
    exact ev_ret rfl rfl
def f_Re_expectDirection  (g : M2) : Option (Int32 × M2) := ((f_Re_expectNumber (0 : Int32) (11 : Int32) g).bind fun q1 => (if q1.1 = 0 then some ((0 : Int32), q1.2) else ((f_Pl_wishBits 3 q1.2).bind fun q3 => (if ((q3 >>> ((q1.2.1 1 6) &&& 31)) &&& (1 : Int32)) = 0 then (if (q1.2.1 1 7) = 0 then some ((1 : Int32), q1.2) else some ((0 : Int32), q1.2)) else ((f_Re_blame (2 : Int32) q1.2).bind fun q6 => (if (q6.1 1 7) = 0 then some ((1 : Int32), q6) else some ((0 : Int32), q6)))))))
theorem e_Re_expectDirection {Lx : Nat}   (g : M2) {b : (Int32 × M2)} (h : f_Re_expectDirection  g = some b) : Ev Lx 33 cd_33 0 [some (.ref 1)] [] g (some (.int b.1), b.2) := by
  unfold f_Re_expectDirection at h
  refine ev_rn (n := 3) (i2 := 3) (L2 := [some (.ref 1)]) (st2 := [.int (11 : Int32), .int (0 : Int32), .ref 1]) (g2 := g) cdE_33 rfl ?_
  obtain ⟨q1, hq1, h⟩ := Option.bind_eq_some_iff.mp h
  refine ev_call rfl cdE_26 rfl rfl rfl (e_Re_expectNumber (0 : Int32) (11 : Int32)  g hq1) ?_
  by_cases hc2 : q1.1 = 0
  · rw [if_pos hc2] at h
    refine ev_zff rfl (cn_f (fun q => q hc2)) ?_
    refine ev_rn (n := 1) (i2 := 6) (L2 := [some (.ref 1)]) (st2 := [.int (0 : Int32)]) (g2 := q1.2) cdE_33 rfl ?_
    cases h
    exact ev_ret rfl rt_0
  · rw [if_neg hc2] at h
    refine ev_zft cdE_33 rfl (cn_t hc2) ?_
    refine ev_rn (n := 2) (i2 := 9) (L2 := [some (.ref 1)]) (st2 := [.ref 3]) (g2 := q1.2) cdE_33 rfl ?_
    obtain ⟨q3, hq3, h⟩ := Option.bind_eq_some_iff.mp h
    refine ev_call rfl cdE_32 rfl rfl rfl (e_Pl_wishBits 3 (by decide) q1.2 hq3) ?_
    refine ev_rn (n := 5) (i2 := 15) (L2 := [some (.ref 1)]) (st2 := [.int ((q3 >>> ((q1.2.1 1 6) &&& 31)) &&& (1 : Int32))]) (g2 := q1.2) cdE_33 rfl ?_
    by_cases hc4 : ((q3 >>> ((q1.2.1 1 6) &&& 31)) &&& (1 : Int32)) = 0
    · rw [if_pos hc4] at h
      refine ev_zft cdE_33 rfl (cn_t hc4) ?_
      refine ev_rn (n := 2) (i2 := 21) (L2 := [some (.ref 1)]) (st2 := [.int (q1.2.1 1 7)]) (g2 := q1.2) cdE_33 rfl ?_
      by_cases hc5 : (q1.2.1 1 7) = 0
      · rw [if_pos hc5] at h
        refine ev_zff rfl (cn_f (fun q => q hc5)) ?_
        refine ev_rn (n := 2) (i2 := 25) (L2 := [some (.ref 1)]) (st2 := [.int (1 : Int32)]) (g2 := q1.2) cdE_33 rfl ?_
        cases h
        exact ev_ret rfl rt_1
      · rw [if_neg hc5] at h
        refine ev_zft cdE_33 rfl (cn_t hc5) ?_
        refine ev_rn (n := 1) (i2 := 25) (L2 := [some (.ref 1)]) (st2 := [.int (0 : Int32)]) (g2 := q1.2) cdE_33 rfl ?_
        cases h
        exact ev_ret rfl rt_0
    · rw [if_neg hc4] at h
      refine ev_zff rfl (cn_f hc4) ?_
      refine ev_rn (n := 2) (i2 := 18) (L2 := [some (.ref 1)]) (st2 := [.int (2 : Int32), .ref 1]) (g2 := q1.2) cdE_33 rfl ?_
      obtain ⟨q6, hq6, h⟩ := Option.bind_eq_some_iff.mp h
      refine ev_call rfl cdE_24 rfl rfl rfl (e_Re_blame (2 : Int32)  q1.2 hq6) ?_
      refine ev_rn (n := 2) (i2 := 21) (L2 := [some (.ref 1)]) (st2 := [.int (q6.1 1 7)]) (g2 := q6) cdE_33 rfl ?_
      by_cases hc7 : (q6.1 1 7) = 0
      · rw [if_pos hc7] at h
        refine ev_zff rfl (cn_f (fun q => q hc7)) ?_
        refine ev_rn (n := 2) (i2 := 25) (L2 := [some (.ref 1)]) (st2 := [.int (1 : Int32)]) (g2 := q6) cdE_33 rfl ?_
        cases h
        exact ev_ret rfl rt_1
      · rw [if_neg hc7] at h
        refine ev_zft cdE_33 rfl (cn_t hc7) ?_
        refine ev_rn (n := 1) (i2 := 25) (L2 := [some (.ref 1)]) (st2 := [.int (0 : Int32)]) (g2 := q6) cdE_33 rfl ?_
        cases h
        exact ev_ret rfl rt_0
def j_Re_readLook_8  (g : M2) : Option (M2) := ((f_Re_nextToken g).bind fun q2 => ((f_Re_expectDirection q2).bind fun q3 => (if q3.1 = 0 then some q3.2 else (bd (uI q3.2 3 4 (q3.2.1 1 6)) fun g5 => ((f_Re_nextToken g5).bind fun q6 => some q6)))))
theorem tj_Re_readLook_8 {Lx : Nat}    (g : M2) {b : M2} (h : j_Re_readLook_8  g = some b) : Ev Lx 34 cd_34 8 [some (.ref 1)] [] g (none, b) := by
  unfold j_Re_readLook_8 at h
  refine ev_rn (n := 1) (i2 := 9) (L2 := [some (.ref 1)]) (st2 := [.ref 1]) (g2 := g) cdE_34 rfl ?_
  obtain ⟨q2, hq2, h⟩ := Option.bind_eq_some_iff.mp h
  refine ev_call rfl cdE_22 rfl rfl rfl (e_Re_nextToken   g hq2) ?_
  refine ev_rn (n := 1) (i2 := 11) (L2 := [some (.ref 1)]) (st2 := [.ref 1]) (g2 := q2) cdE_34 rfl ?_
  obtain ⟨q3, hq3, h⟩ := Option.bind_eq_some_iff.mp h
  refine ev_call rfl cdE_33 rfl rfl rfl (e_Re_expectDirection   q2 hq3) ?_
  by_cases hc4 : q3.1 = 0
  · rw [if_pos hc4] at h
    refine ev_zft cdE_34 rfl (cn_t hc4) ?_
    cases h
    exact ev_ret rfl rfl
  · rw [if_neg hc4] at h
    refine ev_zff rfl (cn_f hc4) ?_
    refine ev_rn (n := 4) (i2 := 17) (L2 := [some (.ref 1)]) (st2 := [.int (q3.2.1 1 6), .ref 3]) (g2 := q3.2) cdE_34 rfl ?_
    refine bd_elim h (fun g5 hg5 h => ?_)
    refine ev_pf (g2 := g5) rfl (rfl : S0[3]? = some _) (by decide) (by rw [hg5] <;> rfl) ?_
    refine ev_rn (n := 1) (i2 := 19) (L2 := [some (.ref 1)]) (st2 := [.ref 1]) (g2 := g5) cdE_34 rfl ?_
    obtain ⟨q6, hq6, h⟩ := Option.bind_eq_some_iff.mp h
    refine ev_call rfl cdE_22 rfl rfl rfl (e_Re_nextToken   g5 hq6) ?_
    cases h
    exact ev_ret rfl rfl
def f_Re_readLook  (g : M2) : Option (M2) := (if (g.1 3 4) = (-1 : Int32) then (j_Re_readLook_8  g) else ((f_Re_blame (3 : Int32) g).bind fun q7 => (j_Re_readLook_8  q7)))
theorem e_Re_readLook {Lx : Nat}   (g : M2) {b : M2} (h : f_Re_readLook  g = some b) : Ev Lx 34 cd_34 0 [some (.ref 1)] [] g (none, b) := by
  unfold f_Re_readLook at h
  refine ev_rn (n := 4) (i2 := 4) (L2 := [some (.ref 1)]) (st2 := [.int (-1 : Int32), .int (g.1 3 4)]) (g2 := g) cdE_34 rfl ?_
  by_cases hc1 : (g.1 3 4) = (-1 : Int32)
  · rw [if_pos hc1] at h
    refine ev_ift cdE_34 rfl (cn_t hc1) ?_
    exact ev_wk (L := [some (.ref 1)]) (tj_Re_readLook_8    g h) ⟨rfl, trivial⟩
  · rw [if_neg hc1] at h
    refine ev_iff rfl (cn_f hc1) ?_
    refine ev_rn (n := 2) (i2 := 7) (L2 := [some (.ref 1)]) (st2 := [.int (3 : Int32), .ref 1]) (g2 := g) cdE_34 rfl ?_
    obtain ⟨q7, hq7, h⟩ := Option.bind_eq_some_iff.mp h
    refine ev_call rfl cdE_24 rfl rfl rfl (e_Re_blame (3 : Int32)  g hq7) ?_
    exact ev_wk (L := [some (.ref 1)]) (tj_Re_readLook_8    q7 h) ⟨rfl, trivial⟩
def f_Pl_addDeaf (a0 : Nat) (p0 : Int32) (g : M2) : Option (M2) := (if (4 : Int32) ≤ (g.1 a0 5) then some g else (if inb (g.1 a0 5) 4 then (bd (uI g (a0 + 2) (g.1 a0 5).toNatClampNeg p0) fun g2 => (bd (uI g2 a0 5 ((g2.1 a0 5) + (1 : Int32))) fun g3 => some g3)) else none))
theorem e_Pl_addDeaf {Lx : Nat} (a0 : Nat) (p0 : Int32) (ha0 : IsPlan a0) (g : M2) {b : M2} (h : f_Pl_addDeaf a0 p0 g = some b) : Ev Lx 35 cd_35 0 [some (.ref a0), some (.int p0)] [] g (none, b) := by
  unfold f_Pl_addDeaf at h
  refine ev_rn (n := 1) (i2 := 1) (L2 := [some (.ref a0), some (.int p0)]) (st2 := [.ref a0]) (g2 := g) cdE_35 rfl ?_
  refine ev_gf (v := .int (g.1 a0 5)) rfl (pl_at ha0) (by decide) rfl ?_
  refine ev_rn (n := 1) (i2 := 3) (L2 := [some (.ref a0), some (.int p0)]) (st2 := [.int (4 : Int32), .int (g.1 a0 5)]) (g2 := g) cdE_35 rfl ?_
  by_cases hc1 : (4 : Int32) ≤ (g.1 a0 5)
  · rw [if_pos hc1] at h
    refine ev_ift cdE_35 rfl (cn_t hc1) ?_
    cases h
    exact ev_ret rfl rfl
  · rw [if_neg hc1] at h
    refine ev_iff rfl (cn_f hc1) ?_
    refine ev_rn (n := 1) (i2 := 5) (L2 := [some (.ref a0), some (.int p0)]) (st2 := [.ref a0]) (g2 := g) cdE_35 rfl ?_
    refine ev_gf (v := .ref (a0 + 2)) rfl (pl_at ha0) (by decide) rfl ?_
    refine ev_rn (n := 1) (i2 := 7) (L2 := [some (.ref a0), some (.int p0)]) (st2 := [.ref a0, .ref (a0 + 2)]) (g2 := g) cdE_35 rfl ?_
    refine ev_gf (v := .int (g.1 a0 5)) rfl (pl_at ha0) (by decide) rfl ?_
    refine ev_rn (n := 1) (i2 := 9) (L2 := [some (.ref a0), some (.int p0)]) (st2 := [.int p0, .int (g.1 a0 5), .ref (a0 + 2)]) (g2 := g) cdE_35 rfl ?_
    by_cases hi4 : inb (g.1 a0 5) 4
    · rw [if_pos hi4] at h
      refine bd_elim h (fun g2 hg2 h => ?_)
      refine ev_iastore (g2 := g2) rfl (pl_2 ha0) (by decide) hi4 (by rw [hg2] <;> rfl) ?_
      refine ev_rn (n := 2) (i2 := 12) (L2 := [some (.ref a0), some (.int p0)]) (st2 := [.ref a0, .ref a0]) (g2 := g2) cdE_35 rfl ?_
      refine ev_gf (v := .int (g2.1 a0 5)) rfl (pl_at ha0) (by decide) rfl ?_
      refine ev_rn (n := 2) (i2 := 15) (L2 := [some (.ref a0), some (.int p0)]) (st2 := [.int ((g2.1 a0 5) + (1 : Int32)), .ref a0]) (g2 := g2) cdE_35 rfl ?_
      refine bd_elim h (fun g3 hg3 h => ?_)
      refine ev_pf (g2 := g3) rfl (pl_at ha0) (by decide) (by rw [hg3] <;> rfl) ?_
      cases h
      exact ev_ret rfl rfl
    · rw [if_neg hi4] at h
      cases h
def j_Re_readDeaf_8  (g : M2) : Option (M2) := ((f_Re_nextToken g).bind fun q2 => ((f_Re_expectDirection q2).bind fun q3 => (if q3.1 = 0 then some q3.2 else ((f_Pl_addDeaf 3 (q3.2.1 1 6) q3.2).bind fun q5 => ((f_Re_nextToken q5).bind fun q6 => some q6)))))
theorem tj_Re_readDeaf_8 {Lx : Nat}    (g : M2) {b : M2} (h : j_Re_readDeaf_8  g = some b) : Ev Lx 36 cd_36 8 [some (.ref 1)] [] g (none, b) := by
  unfold j_Re_readDeaf_8 at h
  refine ev_rn (n := 1) (i2 := 9) (L2 := [some (.ref 1)]) (st2 := [.ref 1]) (g2 := g) cdE_36 rfl ?_
  obtain ⟨q2, hq2, h⟩ := Option.bind_eq_some_iff.mp h
  refine ev_call rfl cdE_22 rfl rfl rfl (e_Re_nextToken   g hq2) ?_
  refine ev_rn (n := 1) (i2 := 11) (L2 := [some (.ref 1)]) (st2 := [.ref 1]) (g2 := q2) cdE_36 rfl ?_
  obtain ⟨q3, hq3, h⟩ := Option.bind_eq_some_iff.mp h
  refine ev_call rfl cdE_33 rfl rfl rfl (e_Re_expectDirection   q2 hq3) ?_
  by_cases hc4 : q3.1 = 0
  · rw [if_pos hc4] at h
    refine ev_zft cdE_36 rfl (cn_t hc4) ?_
    cases h
    exact ev_ret rfl rfl
  · rw [if_neg hc4] at h
    refine ev_zff rfl (cn_f hc4) ?_
    refine ev_rn (n := 4) (i2 := 17) (L2 := [some (.ref 1)]) (st2 := [.int (q3.2.1 1 6), .ref 3]) (g2 := q3.2) cdE_36 rfl ?_
    obtain ⟨q5, hq5, h⟩ := Option.bind_eq_some_iff.mp h
    refine ev_call rfl cdE_35 rfl rfl rfl (e_Pl_addDeaf 3 (q3.2.1 1 6) (by decide) q3.2 hq5) ?_
    refine ev_rn (n := 1) (i2 := 19) (L2 := [some (.ref 1)]) (st2 := [.ref 1]) (g2 := q5) cdE_36 rfl ?_
    obtain ⟨q6, hq6, h⟩ := Option.bind_eq_some_iff.mp h
    refine ev_call rfl cdE_22 rfl rfl rfl (e_Re_nextToken   q5 hq6) ?_
    cases h
    exact ev_ret rfl rfl
def f_Re_readDeaf  (g : M2) : Option (M2) := (if (g.1 3 5) = (4 : Int32) then ((f_Re_blame (3 : Int32) g).bind fun q7 => (j_Re_readDeaf_8  q7)) else (j_Re_readDeaf_8  g))
theorem e_Re_readDeaf {Lx : Nat}   (g : M2) {b : M2} (h : f_Re_readDeaf  g = some b) : Ev Lx 36 cd_36 0 [some (.ref 1)] [] g (none, b) := by
  unfold f_Re_readDeaf at h
  refine ev_rn (n := 4) (i2 := 4) (L2 := [some (.ref 1)]) (st2 := [.int (4 : Int32), .int (g.1 3 5)]) (g2 := g) cdE_36 rfl ?_
  by_cases hc1 : (g.1 3 5) = (4 : Int32)
  · rw [if_pos hc1] at h
    refine ev_iff rfl (cn_f (fun q => q hc1)) ?_
    refine ev_rn (n := 2) (i2 := 7) (L2 := [some (.ref 1)]) (st2 := [.int (3 : Int32), .ref 1]) (g2 := g) cdE_36 rfl ?_
    obtain ⟨q7, hq7, h⟩ := Option.bind_eq_some_iff.mp h
    refine ev_call rfl cdE_24 rfl rfl rfl (e_Re_blame (3 : Int32)  g hq7) ?_
    exact ev_wk (L := [some (.ref 1)]) (tj_Re_readDeaf_8    q7 h) ⟨rfl, trivial⟩
  · rw [if_neg hc1] at h
    refine ev_ift cdE_36 rfl (cn_t hc1) ?_
    exact ev_wk (L := [some (.ref 1)]) (tj_Re_readDeaf_8    g h) ⟨rfl, trivial⟩
def f_Re_readLine  (g : M2) : Option (M2) := ((f_Re_isWord 1005 g).bind fun q1 => (if q1 = 0 then ((f_Re_isWord 1006 g).bind fun q5 => (if q5 = 0 then ((f_Re_isWord 1007 g).bind fun q7 => (if q7 = 0 then ((f_Re_isWord 1008 g).bind fun q9 => (if q9 = 0 then ((f_Re_blame (1 : Int32) g).bind fun q11 => some q11) else ((f_Re_readDeaf g).bind fun q12 => some q12))) else ((f_Re_readLook g).bind fun q13 => some q13))) else ((f_Re_isWord 1006 g).bind fun q14 => ((f_Re_readElement q14 g).bind fun q15 => some q15)))) else ((f_Re_isWord 1006 g).bind fun q3 => ((f_Re_readElement q3 g).bind fun q4 => some q4))))
theorem e_Re_readLine {Lx : Nat}   (g : M2) {b : M2} (h : f_Re_readLine  g = some b) : Ev Lx 37 cd_37 0 [some (.ref 1)] [] g (none, b) := by
  unfold f_Re_readLine at h
  refine ev_rn (n := 2) (i2 := 2) (L2 := [some (.ref 1)]) (st2 := [.ref 1005, .ref 1]) (g2 := g) cdE_37 rfl ?_
  obtain ⟨q1, hq1, h⟩ := Option.bind_eq_some_iff.mp h
  refine ev_call rfl cdE_23 rfl rfl rfl (e_Re_isWord 1005 (by decide) g hq1) ?_
  by_cases hc2 : q1 = 0
  · rw [if_pos hc2] at h
    refine ev_zff rfl (cn_f (fun q => q hc2)) ?_
    refine ev_rn (n := 2) (i2 := 6) (L2 := [some (.ref 1)]) (st2 := [.ref 1006, .ref 1]) (g2 := g) cdE_37 rfl ?_
    obtain ⟨q5, hq5, h⟩ := Option.bind_eq_some_iff.mp h
    refine ev_call rfl cdE_23 rfl rfl rfl (e_Re_isWord 1006 (by decide) g hq5) ?_
    by_cases hc6 : q5 = 0
    · rw [if_pos hc6] at h
      refine ev_zft cdE_37 rfl (cn_t hc6) ?_
      refine ev_rn (n := 2) (i2 := 16) (L2 := [some (.ref 1)]) (st2 := [.ref 1007, .ref 1]) (g2 := g) cdE_37 rfl ?_
      obtain ⟨q7, hq7, h⟩ := Option.bind_eq_some_iff.mp h
      refine ev_call rfl cdE_23 rfl rfl rfl (e_Re_isWord 1007 (by decide) g hq7) ?_
      by_cases hc8 : q7 = 0
      · rw [if_pos hc8] at h
        refine ev_zft cdE_37 rfl (cn_t hc8) ?_
        refine ev_rn (n := 2) (i2 := 23) (L2 := [some (.ref 1)]) (st2 := [.ref 1008, .ref 1]) (g2 := g) cdE_37 rfl ?_
        obtain ⟨q9, hq9, h⟩ := Option.bind_eq_some_iff.mp h
        refine ev_call rfl cdE_23 rfl rfl rfl (e_Re_isWord 1008 (by decide) g hq9) ?_
        by_cases hc10 : q9 = 0
        · rw [if_pos hc10] at h
          refine ev_zft cdE_37 rfl (cn_t hc10) ?_
          refine ev_rn (n := 2) (i2 := 30) (L2 := [some (.ref 1)]) (st2 := [.int (1 : Int32), .ref 1]) (g2 := g) cdE_37 rfl ?_
          obtain ⟨q11, hq11, h⟩ := Option.bind_eq_some_iff.mp h
          refine ev_call rfl cdE_24 rfl rfl rfl (e_Re_blame (1 : Int32)  g hq11) ?_
          cases h
          exact ev_ret rfl rfl
        · rw [if_neg hc10] at h
          refine ev_zff rfl (cn_f hc10) ?_
          refine ev_rn (n := 1) (i2 := 26) (L2 := [some (.ref 1)]) (st2 := [.ref 1]) (g2 := g) cdE_37 rfl ?_
          obtain ⟨q12, hq12, h⟩ := Option.bind_eq_some_iff.mp h
          refine ev_call rfl cdE_36 rfl rfl rfl (e_Re_readDeaf   g hq12) ?_
          refine ev_rn (n := 1) (i2 := 31) (L2 := [some (.ref 1)]) (st2 := []) (g2 := q12) cdE_37 rfl ?_
          cases h
          exact ev_ret rfl rfl
      · rw [if_neg hc8] at h
        refine ev_zff rfl (cn_f hc8) ?_
        refine ev_rn (n := 1) (i2 := 19) (L2 := [some (.ref 1)]) (st2 := [.ref 1]) (g2 := g) cdE_37 rfl ?_
        obtain ⟨q13, hq13, h⟩ := Option.bind_eq_some_iff.mp h
        refine ev_call rfl cdE_34 rfl rfl rfl (e_Re_readLook   g hq13) ?_
        refine ev_rn (n := 1) (i2 := 31) (L2 := [some (.ref 1)]) (st2 := []) (g2 := q13) cdE_37 rfl ?_
        cases h
        exact ev_ret rfl rfl
    · rw [if_neg hc6] at h
      refine ev_zff rfl (cn_f hc6) ?_
      refine ev_rn (n := 3) (i2 := 11) (L2 := [some (.ref 1)]) (st2 := [.ref 1006, .ref 1, .ref 1]) (g2 := g) cdE_37 rfl ?_
      obtain ⟨q14, hq14, h⟩ := Option.bind_eq_some_iff.mp h
      refine ev_call rfl cdE_23 rfl rfl rfl (e_Re_isWord 1006 (by decide) g hq14) ?_
      obtain ⟨q15, hq15, h⟩ := Option.bind_eq_some_iff.mp h
      refine ev_call rfl cdE_30 rfl rfl rfl (e_Re_readElement q14  g hq15) ?_
      refine ev_rn (n := 1) (i2 := 31) (L2 := [some (.ref 1)]) (st2 := []) (g2 := q15) cdE_37 rfl ?_
      cases h
      exact ev_ret rfl rfl
  · rw [if_neg hc2] at h
    refine ev_zft cdE_37 rfl (cn_t hc2) ?_
    refine ev_rn (n := 3) (i2 := 11) (L2 := [some (.ref 1)]) (st2 := [.ref 1006, .ref 1, .ref 1]) (g2 := g) cdE_37 rfl ?_
    obtain ⟨q3, hq3, h⟩ := Option.bind_eq_some_iff.mp h
    refine ev_call rfl cdE_23 rfl rfl rfl (e_Re_isWord 1006 (by decide) g hq3) ?_
    obtain ⟨q4, hq4, h⟩ := Option.bind_eq_some_iff.mp h
    refine ev_call rfl cdE_30 rfl rfl rfl (e_Re_readElement q3  g hq4) ?_
    refine ev_rn (n := 1) (i2 := 31) (L2 := [some (.ref 1)]) (st2 := []) (g2 := q4) cdE_37 rfl ?_
    cases h
    exact ev_ret rfl rfl
def f_Re_expectSign  (g : M2) : Option (M2) := (if (g.1 1 5) = (3 : Int32) then (bd (uI g 3 7 ((g.1 3 7) + (1 : Int32))) fun g2 => ((f_Re_nextToken g2).bind fun q3 => some q3)) else ((f_Re_blame (1 : Int32) g).bind fun q4 => (bd (uI q4 3 7 ((q4.1 3 7) + (1 : Int32))) fun g5 => ((f_Re_nextToken g5).bind fun q6 => some q6))))
theorem e_Re_expectSign {Lx : Nat}   (g : M2) {b : M2} (h : f_Re_expectSign  g = some b) : Ev Lx 38 cd_38 0 [some (.ref 1)] [] g (none, b) := by
  unfold f_Re_expectSign at h
  refine ev_rn (n := 3) (i2 := 3) (L2 := [some (.ref 1)]) (st2 := [.int (3 : Int32), .int (g.1 1 5)]) (g2 := g) cdE_38 rfl ?_
  by_cases hc1 : (g.1 1 5) = (3 : Int32)
  · rw [if_pos hc1] at h
    refine ev_ift cdE_38 rfl (cn_t hc1) ?_
    refine ev_rn (n := 6) (i2 := 13) (L2 := [some (.ref 1)]) (st2 := [.int ((g.1 3 7) + (1 : Int32)), .ref 3]) (g2 := g) cdE_38 rfl ?_
    refine bd_elim h (fun g2 hg2 h => ?_)
    refine ev_pf (g2 := g2) rfl (rfl : S0[3]? = some _) (by decide) (by rw [hg2] <;> rfl) ?_
    refine ev_rn (n := 1) (i2 := 15) (L2 := [some (.ref 1)]) (st2 := [.ref 1]) (g2 := g2) cdE_38 rfl ?_
    obtain ⟨q3, hq3, h⟩ := Option.bind_eq_some_iff.mp h
    refine ev_call rfl cdE_22 rfl rfl rfl (e_Re_nextToken   g2 hq3) ?_
    cases h
    exact ev_ret rfl rfl
  · rw [if_neg hc1] at h
    refine ev_iff rfl (cn_f hc1) ?_
    refine ev_rn (n := 2) (i2 := 6) (L2 := [some (.ref 1)]) (st2 := [.int (1 : Int32), .ref 1]) (g2 := g) cdE_38 rfl ?_
    obtain ⟨q4, hq4, h⟩ := Option.bind_eq_some_iff.mp h
    refine ev_call rfl cdE_24 rfl rfl rfl (e_Re_blame (1 : Int32)  g hq4) ?_
    refine ev_rn (n := 6) (i2 := 13) (L2 := [some (.ref 1)]) (st2 := [.int ((q4.1 3 7) + (1 : Int32)), .ref 3]) (g2 := q4) cdE_38 rfl ?_
    refine bd_elim h (fun g5 hg5 h => ?_)
    refine ev_pf (g2 := g5) rfl (rfl : S0[3]? = some _) (by decide) (by rw [hg5] <;> rfl) ?_
    refine ev_rn (n := 1) (i2 := 15) (L2 := [some (.ref 1)]) (st2 := [.ref 1]) (g2 := g5) cdE_38 rfl ?_
    obtain ⟨q6, hq6, h⟩ := Option.bind_eq_some_iff.mp h
    refine ev_call rfl cdE_22 rfl rfl rfl (e_Re_nextToken   g5 hq6) ?_
    cases h
    exact ev_ret rfl rfl
def b_Re_readText_16  (v1 : Int32) (g : M2) : Option ((Int32 × M2) ⊕ M2) := (if (300 : Int32) < v1 then some (.inr g) else (if (g.1 1 7) = 0 then (if (g.1 1 5) = 0 then some (.inr g) else (if (g.1 3 7) = 0 then ((f_Re_readFirstLine g).bind fun q12 => ((f_Re_expectSign q12).bind fun q13 => some (.inl ((v1 + (1 : Int32)), q13)))) else ((f_Re_readLine g).bind fun q10 => ((f_Re_expectSign q10).bind fun q11 => some (.inl ((v1 + (1 : Int32)), q11)))))) else some (.inr g)))
theorem tb_Re_readText_16 {Lx : Nat}   (v1 : Int32) (g : M2) {b : (Int32 × M2) ⊕ M2} {o : Option Value × M2} (h : b_Re_readText_16 v1 g = some b) (hb : Sum.elim (fun s => Ev Lx 39 cd_39 16 [some (.ref 1), some (.int s.1)] [] s.2 o) (fun e => Ev Lx 39 cd_39 38 [] [] e o) b) : Ev Lx 39 cd_39 16 [some (.ref 1), some (.int v1)] [] g o := by
  unfold b_Re_readText_16 at h
  refine ev_rn (n := 2) (i2 := 18) (L2 := [some (.ref 1), some (.int v1)]) (st2 := [.int (300 : Int32), .int v1]) (g2 := g) cdE_39 rfl ?_
  by_cases hc6 : (300 : Int32) < v1
  · rw [if_pos hc6] at h
    refine ev_ift cdE_39 rfl (cn_t hc6) ?_
    cases h
    exact ev_wk (L := []) hb trivial
  · rw [if_neg hc6] at h
    refine ev_iff rfl (cn_f hc6) ?_
    refine ev_rn (n := 2) (i2 := 21) (L2 := [some (.ref 1), some (.int v1)]) (st2 := [.int (g.1 1 7)]) (g2 := g) cdE_39 rfl ?_
    by_cases hc7 : (g.1 1 7) = 0
    · rw [if_pos hc7] at h
      refine ev_zff rfl (cn_f (fun q => q hc7)) ?_
      refine ev_rn (n := 2) (i2 := 24) (L2 := [some (.ref 1), some (.int v1)]) (st2 := [.int (g.1 1 5)]) (g2 := g) cdE_39 rfl ?_
      by_cases hc8 : (g.1 1 5) = 0
      · rw [if_pos hc8] at h
        refine ev_zft cdE_39 rfl (cn_t hc8) ?_
        cases h
        exact ev_wk (L := []) hb trivial
      · rw [if_neg hc8] at h
        refine ev_zff rfl (cn_f hc8) ?_
        refine ev_rn (n := 3) (i2 := 28) (L2 := [some (.ref 1), some (.int v1)]) (st2 := [.int (g.1 3 7)]) (g2 := g) cdE_39 rfl ?_
        by_cases hc9 : (g.1 3 7) = 0
        · rw [if_pos hc9] at h
          refine ev_zff rfl (cn_f (fun q => q hc9)) ?_
          refine ev_rn (n := 1) (i2 := 30) (L2 := [some (.ref 1), some (.int v1)]) (st2 := [.ref 1]) (g2 := g) cdE_39 rfl ?_
          obtain ⟨q12, hq12, h⟩ := Option.bind_eq_some_iff.mp h
          refine ev_call rfl cdE_27 rfl rfl rfl (e_Re_readFirstLine   g hq12) ?_
          refine ev_rn (n := 2) (i2 := 35) (L2 := [some (.ref 1), some (.int v1)]) (st2 := [.ref 1]) (g2 := q12) cdE_39 rfl ?_
          obtain ⟨q13, hq13, h⟩ := Option.bind_eq_some_iff.mp h
          refine ev_call rfl cdE_38 rfl rfl rfl (e_Re_expectSign   q12 hq13) ?_
          refine ev_rn (n := 2) (i2 := 16) (L2 := [some (.ref 1), some (.int (v1 + (1 : Int32)))]) (st2 := []) (g2 := q13) cdE_39 rfl ?_
          cases h
          exact ev_wk (L := [some (.ref 1), some (.int (v1 + (1 : Int32)))]) hb ⟨rfl, ⟨rfl, trivial⟩⟩
        · rw [if_neg hc9] at h
          refine ev_zft cdE_39 rfl (cn_t hc9) ?_
          refine ev_rn (n := 1) (i2 := 33) (L2 := [some (.ref 1), some (.int v1)]) (st2 := [.ref 1]) (g2 := g) cdE_39 rfl ?_
          obtain ⟨q10, hq10, h⟩ := Option.bind_eq_some_iff.mp h
          refine ev_call rfl cdE_37 rfl rfl rfl (e_Re_readLine   g hq10) ?_
          refine ev_rn (n := 1) (i2 := 35) (L2 := [some (.ref 1), some (.int v1)]) (st2 := [.ref 1]) (g2 := q10) cdE_39 rfl ?_
          obtain ⟨q11, hq11, h⟩ := Option.bind_eq_some_iff.mp h
          refine ev_call rfl cdE_38 rfl rfl rfl (e_Re_expectSign   q10 hq11) ?_
          refine ev_rn (n := 2) (i2 := 16) (L2 := [some (.ref 1), some (.int (v1 + (1 : Int32)))]) (st2 := []) (g2 := q11) cdE_39 rfl ?_
          cases h
          exact ev_wk (L := [some (.ref 1), some (.int (v1 + (1 : Int32)))]) hb ⟨rfl, ⟨rfl, trivial⟩⟩
    · rw [if_neg hc7] at h
      refine ev_zft cdE_39 rfl (cn_t hc7) ?_
      cases h
      exact ev_wk (L := []) hb trivial
def f_Re_readText  (g : M2) : Option (M2) := ((f_Pl_clear 3 g).bind fun q1 => (bd (uI q1 1 7 (0 : Int32)) fun g2 => (bd (uI g2 1 8 (-1 : Int32)) fun g3 => (bd (uI g3 1 3 (0 : Int32)) fun g4 => ((f_Re_nextToken g4).bind fun q5 => ((lp (fun s => b_Re_readText_16  s.1 s.2) 5000 ((0 : Int32), q5)).bind fun e14 => some e14))))))
theorem e_Re_readText {Lx : Nat}   (g : M2) {b : M2} (h : f_Re_readText  g = some b) : Ev Lx 39 cd_39 0 [some (.ref 1)] [] g (none, b) := by
  unfold f_Re_readText at h
  refine ev_rn (n := 2) (i2 := 2) (L2 := [some (.ref 1)]) (st2 := [.ref 3]) (g2 := g) cdE_39 rfl ?_
  obtain ⟨q1, hq1, h⟩ := Option.bind_eq_some_iff.mp h
  refine ev_call rfl cdE_18 rfl rfl rfl (e_Pl_clear 3 (by decide) g hq1) ?_
  refine ev_rn (n := 2) (i2 := 5) (L2 := [some (.ref 1)]) (st2 := [.int (0 : Int32), .ref 1]) (g2 := q1) cdE_39 rfl ?_
  refine bd_elim h (fun g2 hg2 h => ?_)
  refine ev_pf (g2 := g2) rfl (rfl : S0[1]? = some _) (by decide) (by rw [hg2] <;> rfl) ?_
  refine ev_rn (n := 2) (i2 := 8) (L2 := [some (.ref 1)]) (st2 := [.int (-1 : Int32), .ref 1]) (g2 := g2) cdE_39 rfl ?_
  refine bd_elim h (fun g3 hg3 h => ?_)
  refine ev_pf (g2 := g3) rfl (rfl : S0[1]? = some _) (by decide) (by rw [hg3] <;> rfl) ?_
  refine ev_rn (n := 2) (i2 := 11) (L2 := [some (.ref 1)]) (st2 := [.int (0 : Int32), .ref 1]) (g2 := g3) cdE_39 rfl ?_
  refine bd_elim h (fun g4 hg4 h => ?_)
  refine ev_pf (g2 := g4) rfl (rfl : S0[1]? = some _) (by decide) (by rw [hg4] <;> rfl) ?_
  refine ev_rn (n := 1) (i2 := 13) (L2 := [some (.ref 1)]) (st2 := [.ref 1]) (g2 := g4) cdE_39 rfl ?_
  obtain ⟨q5, hq5, h⟩ := Option.bind_eq_some_iff.mp h
  refine ev_call rfl cdE_22 rfl rfl rfl (e_Re_nextToken   g4 hq5) ?_
  refine ev_rn (n := 2) (i2 := 16) (L2 := [some (.ref 1), some (.int (0 : Int32))]) (st2 := []) (g2 := q5) cdE_39 rfl ?_
  obtain ⟨e14, he14, h⟩ := Option.bind_eq_some_iff.mp h
  have hX15 : Ev Lx 39 cd_39 38 [] [] e14 (none, b) := by
    cases h
    exact ev_ret rfl rfl
  exact ev_wk (L := [some (.ref 1), some (.int (0 : Int32))]) (lp_ind (P := (fun (s : (Int32 × M2)) => Ev Lx 39 cd_39 16 [some (.ref 1), some (.int s.1)] [] s.2 (none, b))) (fun s s2 hs hP => tb_Re_readText_16   s.1 s.2 (b := .inl s2) hs hP) (fun s hs => tb_Re_readText_16   s.1 s.2 (b := .inr e14) hs hX15) _ _ he14) ⟨rfl, ⟨rfl, trivial⟩⟩
def b_Pl_copy_2 (v0 : Nat) (v1 : Nat) (v2 : Int32) (g : M2) : Option ((Int32 × M2) ⊕ M2) := (if (5 : Int32) ≤ v2 then some (.inr g) else (if inb v2 5 then (if inb v2 5 then (bd (uI g (v0 + 1) v2.toNatClampNeg (g.1 (v1 + 1) v2.toNatClampNeg)) fun g3 => some (.inl ((v2 + (1 : Int32)), g3))) else none) else none))
theorem tb_Pl_copy_2 {Lx : Nat} (v0 : Nat) (v1 : Nat) (hv0 : IsPlan v0) (hv1 : IsPlan v1) (v2 : Int32) (g : M2) {b : (Int32 × M2) ⊕ M2} {o : Option Value × M2} (h : b_Pl_copy_2 v0 v1 v2 g = some b) (hb : Sum.elim (fun s => Ev Lx 40 cd_40 2 [some (.ref v0), some (.ref v1), some (.int s.1)] [] s.2 o) (fun e => Ev Lx 40 cd_40 15 [some (.ref v0), some (.ref v1)] [] e o) b) : Ev Lx 40 cd_40 2 [some (.ref v0), some (.ref v1), some (.int v2)] [] g o := by
  unfold b_Pl_copy_2 at h
  refine ev_rn (n := 2) (i2 := 4) (L2 := [some (.ref v0), some (.ref v1), some (.int v2)]) (st2 := [.int (5 : Int32), .int v2]) (g2 := g) cdE_40 rfl ?_
  by_cases hc1 : (5 : Int32) ≤ v2
  · rw [if_pos hc1] at h
    refine ev_ift cdE_40 rfl (cn_t hc1) ?_
    cases h
    exact ev_wk (L := [some (.ref v0), some (.ref v1)]) hb ⟨rfl, ⟨rfl, trivial⟩⟩
  · rw [if_neg hc1] at h
    refine ev_iff rfl (cn_f hc1) ?_
    refine ev_rn (n := 1) (i2 := 6) (L2 := [some (.ref v0), some (.ref v1), some (.int v2)]) (st2 := [.ref v0]) (g2 := g) cdE_40 rfl ?_
    refine ev_gf (v := .ref (v0 + 1)) rfl (pl_at hv0) (by decide) rfl ?_
    refine ev_rn (n := 2) (i2 := 9) (L2 := [some (.ref v0), some (.ref v1), some (.int v2)]) (st2 := [.ref v1, .int v2, .ref (v0 + 1)]) (g2 := g) cdE_40 rfl ?_
    refine ev_gf (v := .ref (v1 + 1)) rfl (pl_at hv1) (by decide) rfl ?_
    refine ev_rn (n := 1) (i2 := 11) (L2 := [some (.ref v0), some (.ref v1), some (.int v2)]) (st2 := [.int v2, .ref (v1 + 1), .int v2, .ref (v0 + 1)]) (g2 := g) cdE_40 rfl ?_
    by_cases hi2 : inb v2 5
    · rw [if_pos hi2] at h
      refine ev_iaload (v := .int (g.1 (v1 + 1) v2.toNatClampNeg)) rfl (kd_of (pl_1 hv1)) (by decide) hi2 rfl ?_
      by_cases hi4 : inb v2 5
      · rw [if_pos hi4] at h
        refine bd_elim h (fun g3 hg3 h => ?_)
        refine ev_iastore (g2 := g3) rfl (pl_1 hv0) (by decide) hi4 (by rw [hg3] <;> rfl) ?_
        refine ev_rn (n := 2) (i2 := 2) (L2 := [some (.ref v0), some (.ref v1), some (.int (v2 + (1 : Int32)))]) (st2 := []) (g2 := g3) cdE_40 rfl ?_
        cases h
        exact ev_wk (L := [some (.ref v0), some (.ref v1), some (.int (v2 + (1 : Int32)))]) hb ⟨rfl, ⟨rfl, ⟨rfl, trivial⟩⟩⟩
      · rw [if_neg hi4] at h
        cases h
    · rw [if_neg hi2] at h
      cases h
def b_Pl_copy_17 (v0 : Nat) (v1 : Nat) (v2 : Int32) (g : M2) : Option ((Int32 × M2) ⊕ M2) := (if (4 : Int32) ≤ v2 then some (.inr g) else (if inb v2 4 then (if inb v2 4 then (bd (uI g (v0 + 2) v2.toNatClampNeg (g.1 (v1 + 2) v2.toNatClampNeg)) fun g8 => some (.inl ((v2 + (1 : Int32)), g8))) else none) else none))
theorem tb_Pl_copy_17 {Lx : Nat} (v0 : Nat) (v1 : Nat) (hv0 : IsPlan v0) (hv1 : IsPlan v1) (v2 : Int32) (g : M2) {b : (Int32 × M2) ⊕ M2} {o : Option Value × M2} (h : b_Pl_copy_17 v0 v1 v2 g = some b) (hb : Sum.elim (fun s => Ev Lx 40 cd_40 17 [some (.ref v0), some (.ref v1), some (.int s.1)] [] s.2 o) (fun e => Ev Lx 40 cd_40 30 [some (.ref v0), some (.ref v1)] [] e o) b) : Ev Lx 40 cd_40 17 [some (.ref v0), some (.ref v1), some (.int v2)] [] g o := by
  unfold b_Pl_copy_17 at h
  refine ev_rn (n := 2) (i2 := 19) (L2 := [some (.ref v0), some (.ref v1), some (.int v2)]) (st2 := [.int (4 : Int32), .int v2]) (g2 := g) cdE_40 rfl ?_
  by_cases hc6 : (4 : Int32) ≤ v2
  · rw [if_pos hc6] at h
    refine ev_ift cdE_40 rfl (cn_t hc6) ?_
    cases h
    exact ev_wk (L := [some (.ref v0), some (.ref v1)]) hb ⟨rfl, ⟨rfl, trivial⟩⟩
  · rw [if_neg hc6] at h
    refine ev_iff rfl (cn_f hc6) ?_
    refine ev_rn (n := 1) (i2 := 21) (L2 := [some (.ref v0), some (.ref v1), some (.int v2)]) (st2 := [.ref v0]) (g2 := g) cdE_40 rfl ?_
    refine ev_gf (v := .ref (v0 + 2)) rfl (pl_at hv0) (by decide) rfl ?_
    refine ev_rn (n := 2) (i2 := 24) (L2 := [some (.ref v0), some (.ref v1), some (.int v2)]) (st2 := [.ref v1, .int v2, .ref (v0 + 2)]) (g2 := g) cdE_40 rfl ?_
    refine ev_gf (v := .ref (v1 + 2)) rfl (pl_at hv1) (by decide) rfl ?_
    refine ev_rn (n := 1) (i2 := 26) (L2 := [some (.ref v0), some (.ref v1), some (.int v2)]) (st2 := [.int v2, .ref (v1 + 2), .int v2, .ref (v0 + 2)]) (g2 := g) cdE_40 rfl ?_
    by_cases hi7 : inb v2 4
    · rw [if_pos hi7] at h
      refine ev_iaload (v := .int (g.1 (v1 + 2) v2.toNatClampNeg)) rfl (kd_of (pl_2 hv1)) (by decide) hi7 rfl ?_
      by_cases hi9 : inb v2 4
      · rw [if_pos hi9] at h
        refine bd_elim h (fun g8 hg8 h => ?_)
        refine ev_iastore (g2 := g8) rfl (pl_2 hv0) (by decide) hi9 (by rw [hg8] <;> rfl) ?_
        refine ev_rn (n := 2) (i2 := 17) (L2 := [some (.ref v0), some (.ref v1), some (.int (v2 + (1 : Int32)))]) (st2 := []) (g2 := g8) cdE_40 rfl ?_
        cases h
        exact ev_wk (L := [some (.ref v0), some (.ref v1), some (.int (v2 + (1 : Int32)))]) hb ⟨rfl, ⟨rfl, ⟨rfl, trivial⟩⟩⟩
      · rw [if_neg hi9] at h
        cases h
    · rw [if_neg hi7] at h
      cases h
def f_Pl_copy (a0 : Nat) (p0 : Nat) (g : M2) : Option (M2) := ((lp (fun s => b_Pl_copy_2 a0 p0 s.1 s.2) 5000 ((0 : Int32), g)).bind fun e5 => ((lp (fun s => b_Pl_copy_17 a0 p0 s.1 s.2) 5000 ((0 : Int32), e5)).bind fun e10 => (bd (uI e10 a0 2 (e10.1 p0 2)) fun g11 => (bd (uI g11 a0 3 (g11.1 p0 3)) fun g12 => (bd (uI g12 a0 4 (g12.1 p0 4)) fun g13 => (bd (uI g13 a0 5 (g13.1 p0 5)) fun g14 => (bd (uI g14 a0 6 (g14.1 p0 6)) fun g15 => (bd (uI g15 a0 7 (g15.1 p0 7)) fun g16 => some g16))))))))
theorem e_Pl_copy {Lx : Nat} (a0 : Nat) (p0 : Nat) (ha0 : IsPlan a0) (hp0 : IsPlan p0) (g : M2) {b : M2} (h : f_Pl_copy a0 p0 g = some b) : Ev Lx 40 cd_40 0 [some (.ref a0), some (.ref p0)] [] g (none, b) := by
  unfold f_Pl_copy at h
  refine ev_rn (n := 2) (i2 := 2) (L2 := [some (.ref a0), some (.ref p0), some (.int (0 : Int32))]) (st2 := []) (g2 := g) cdE_40 rfl ?_
  obtain ⟨e5, he5, h⟩ := Option.bind_eq_some_iff.mp h
  have hX18 : Ev Lx 40 cd_40 15 [some (.ref a0), some (.ref p0)] [] e5 (none, b) := by
    refine ev_rn (n := 2) (i2 := 17) (L2 := [some (.ref a0), some (.ref p0), some (.int (0 : Int32))]) (st2 := []) (g2 := e5) cdE_40 rfl ?_
    obtain ⟨e10, he10, h⟩ := Option.bind_eq_some_iff.mp h
    have hX17 : Ev Lx 40 cd_40 30 [some (.ref a0), some (.ref p0)] [] e10 (none, b) := by
      refine ev_rn (n := 2) (i2 := 32) (L2 := [some (.ref a0), some (.ref p0)]) (st2 := [.ref p0, .ref a0]) (g2 := e10) cdE_40 rfl ?_
      refine ev_gf (v := .int (e10.1 p0 2)) rfl (pl_at hp0) (by decide) rfl ?_
      refine bd_elim h (fun g11 hg11 h => ?_)
      refine ev_pf (g2 := g11) rfl (pl_at ha0) (by decide) (by rw [hg11] <;> rfl) ?_
      refine ev_rn (n := 2) (i2 := 36) (L2 := [some (.ref a0), some (.ref p0)]) (st2 := [.ref p0, .ref a0]) (g2 := g11) cdE_40 rfl ?_
      refine ev_gf (v := .int (g11.1 p0 3)) rfl (pl_at hp0) (by decide) rfl ?_
      refine bd_elim h (fun g12 hg12 h => ?_)
      refine ev_pf (g2 := g12) rfl (pl_at ha0) (by decide) (by rw [hg12] <;> rfl) ?_
      refine ev_rn (n := 2) (i2 := 40) (L2 := [some (.ref a0), some (.ref p0)]) (st2 := [.ref p0, .ref a0]) (g2 := g12) cdE_40 rfl ?_
      refine ev_gf (v := .int (g12.1 p0 4)) rfl (pl_at hp0) (by decide) rfl ?_
      refine bd_elim h (fun g13 hg13 h => ?_)
      refine ev_pf (g2 := g13) rfl (pl_at ha0) (by decide) (by rw [hg13] <;> rfl) ?_
      refine ev_rn (n := 2) (i2 := 44) (L2 := [some (.ref a0), some (.ref p0)]) (st2 := [.ref p0, .ref a0]) (g2 := g13) cdE_40 rfl ?_
      refine ev_gf (v := .int (g13.1 p0 5)) rfl (pl_at hp0) (by decide) rfl ?_
      refine bd_elim h (fun g14 hg14 h => ?_)
      refine ev_pf (g2 := g14) rfl (pl_at ha0) (by decide) (by rw [hg14] <;> rfl) ?_
      refine ev_rn (n := 2) (i2 := 48) (L2 := [some (.ref a0), some (.ref p0)]) (st2 := [.ref p0, .ref a0]) (g2 := g14) cdE_40 rfl ?_
      refine ev_gf (v := .int (g14.1 p0 6)) rfl (pl_at hp0) (by decide) rfl ?_
      refine bd_elim h (fun g15 hg15 h => ?_)
      refine ev_pf (g2 := g15) rfl (pl_at ha0) (by decide) (by rw [hg15] <;> rfl) ?_
      refine ev_rn (n := 2) (i2 := 52) (L2 := [some (.ref a0), some (.ref p0)]) (st2 := [.ref p0, .ref a0]) (g2 := g15) cdE_40 rfl ?_
      refine ev_gf (v := .int (g15.1 p0 7)) rfl (pl_at hp0) (by decide) rfl ?_
      refine bd_elim h (fun g16 hg16 h => ?_)
      refine ev_pf (g2 := g16) rfl (pl_at ha0) (by decide) (by rw [hg16] <;> rfl) ?_
      cases h
      exact ev_ret rfl rfl
    exact ev_wk (L := [some (.ref a0), some (.ref p0), some (.int (0 : Int32))]) (lp_ind (P := (fun (s : (Int32 × M2)) => Ev Lx 40 cd_40 17 [some (.ref a0), some (.ref p0), some (.int s.1)] [] s.2 (none, b))) (fun s s2 hs hP => tb_Pl_copy_17 a0 p0 ha0 hp0 s.1 s.2 (b := .inl s2) hs hP) (fun s hs => tb_Pl_copy_17 a0 p0 ha0 hp0 s.1 s.2 (b := .inr e10) hs hX17) _ _ he10) ⟨rfl, ⟨rfl, ⟨rfl, trivial⟩⟩⟩
  exact ev_wk (L := [some (.ref a0), some (.ref p0), some (.int (0 : Int32))]) (lp_ind (P := (fun (s : (Int32 × M2)) => Ev Lx 40 cd_40 2 [some (.ref a0), some (.ref p0), some (.int s.1)] [] s.2 (none, b))) (fun s s2 hs hP => tb_Pl_copy_2 a0 p0 ha0 hp0 s.1 s.2 (b := .inl s2) hs hP) (fun s hs => tb_Pl_copy_2 a0 p0 ha0 hp0 s.1 s.2 (b := .inr e5) hs hX18) _ _ he5) ⟨rfl, ⟨rfl, ⟨rfl, trivial⟩⟩⟩
def f_Da_array  (g : M2) : Option (Int32 × M2) := ((f_Re_readText g).bind fun q1 => (bd (uI q1 1 2 (0 : Int32)) fun g2 => (if (g2.1 1 7) = 0 then ((f_Pl_copy 7 3 g2).bind fun q4 => (bd (uI q4 0 9 (1 : Int32)) fun g5 => some ((g5.1 7 7), g5))) else some ((-4 : Int32), g2))))
theorem e_Da_array {Lx : Nat}   (g : M2) {b : (Int32 × M2)} (h : f_Da_array  g = some b) : Ev Lx 41 cd_41 0 [some (.ref 0)] [] g (some (.int b.1), b.2) := by
  unfold f_Da_array at h
  refine ev_rn (n := 2) (i2 := 2) (L2 := [some (.ref 0)]) (st2 := [.ref 1]) (g2 := g) cdE_41 rfl ?_
  obtain ⟨q1, hq1, h⟩ := Option.bind_eq_some_iff.mp h
  refine ev_call rfl cdE_39 rfl rfl rfl (e_Re_readText   g hq1) ?_
  refine ev_rn (n := 3) (i2 := 6) (L2 := [some (.ref 0)]) (st2 := [.int (0 : Int32), .ref 1]) (g2 := q1) cdE_41 rfl ?_
  refine bd_elim h (fun g2 hg2 h => ?_)
  refine ev_pf (g2 := g2) rfl (rfl : S0[1]? = some _) (by decide) (by rw [hg2] <;> rfl) ?_
  refine ev_rn (n := 3) (i2 := 10) (L2 := [some (.ref 0)]) (st2 := [.int (g2.1 1 7)]) (g2 := g2) cdE_41 rfl ?_
  by_cases hc3 : (g2.1 1 7) = 0
  · rw [if_pos hc3] at h
    refine ev_zft cdE_41 rfl (cn_t hc3) ?_
    refine ev_rn (n := 6) (i2 := 19) (L2 := [some (.ref 0)]) (st2 := [.ref 3, .ref 7]) (g2 := g2) cdE_41 rfl ?_
    obtain ⟨q4, hq4, h⟩ := Option.bind_eq_some_iff.mp h
    refine ev_call rfl cdE_40 rfl rfl rfl (e_Pl_copy 7 3 (by decide) (by decide) g2 hq4) ?_
    refine ev_rn (n := 2) (i2 := 22) (L2 := [some (.ref 0)]) (st2 := [.int (1 : Int32), .ref 0]) (g2 := q4) cdE_41 rfl ?_
    refine bd_elim h (fun g5 hg5 h => ?_)
    refine ev_pf (g2 := g5) rfl (rfl : S0[0]? = some _) (by decide) (by rw [hg5] <;> rfl) ?_
    refine ev_rn (n := 4) (i2 := 27) (L2 := [some (.ref 0)]) (st2 := [.int (g5.1 7 7)]) (g2 := g5) cdE_41 rfl ?_
    cases h
    exact ev_ret rfl rfl
  · rw [if_neg hc3] at h
    refine ev_zff rfl (cn_f hc3) ?_
    refine ev_rn (n := 1) (i2 := 12) (L2 := [some (.ref 0)]) (st2 := [.int (-4 : Int32)]) (g2 := g2) cdE_41 rfl ?_
    cases h
    exact ev_ret rfl rfl
def f_Mo_see (p0 : Int32) (g : M2) : Option (Int32) := (if (g.1 157 23) ≤ p0 then some (-1 : Int32) else (if inb p0 300 then some ((g.1 167 p0.toNatClampNeg) &&& (255 : Int32)) else none))
theorem e_Mo_see {Lx : Nat} (p0 : Int32)  (g : M2) {b : Int32} (h : f_Mo_see p0 g = some b) : Ev Lx 42 cd_42 0 [some (.ref 157), some (.int p0)] [] g (some (.int b), g) := by
  unfold f_Mo_see at h
  refine ev_rn (n := 3) (i2 := 3) (L2 := [some (.ref 157), some (.int p0)]) (st2 := [.int (g.1 157 23), .int p0]) (g2 := g) cdE_42 rfl ?_
  by_cases hc1 : (g.1 157 23) ≤ p0
  · rw [if_pos hc1] at h
    refine ev_ift cdE_42 rfl (cn_t hc1) ?_
    refine ev_rn (n := 1) (i2 := 12) (L2 := [some (.ref 157), some (.int p0)]) (st2 := [.int (-1 : Int32)]) (g2 := g) cdE_42 rfl ?_
    cases h
    exact ev_ret rfl rfl
  · rw [if_neg hc1] at h
    refine ev_iff rfl (cn_f hc1) ?_
    refine ev_rn (n := 3) (i2 := 7) (L2 := [some (.ref 157), some (.int p0)]) (st2 := [.int p0, .ref 167]) (g2 := g) cdE_42 rfl ?_
    by_cases hi2 : inb p0 300
    · rw [if_pos hi2] at h
      refine ev_baload (v := .int (g.1 167 p0.toNatClampNeg)) rfl (kd_of (show S0[167]? = some (102, 300, List.replicate 300 none) from rfl)) (by decide) hi2 rfl ?_
      refine ev_rn (n := 3) (i2 := 12) (L2 := [some (.ref 157), some (.int p0)]) (st2 := [.int ((g.1 167 p0.toNatClampNeg) &&& (255 : Int32))]) (g2 := g) cdE_42 rfl ?_
      cases h
      exact ev_ret rfl rfl
    · rw [if_neg hi2] at h
      cases h
def b_Mo_advance_0   (g : M2) : Option (M2 ⊕ M2) := ((f_Mo_see (g.1 157 24) g).bind fun q1 => (if q1 = (32 : Int32) then (bd (uI g 157 24 ((g.1 157 24) + (1 : Int32))) fun g3 => some (.inl g3)) else ((f_Mo_see (g.1 157 24) g).bind fun q4 => (if q4 = (10 : Int32) then (bd (uI g 157 24 ((g.1 157 24) + (1 : Int32))) fun g6 => some (.inl g6)) else some (.inr g)))))
theorem tb_Mo_advance_0 {Lx : Nat}    (g : M2) {b : M2 ⊕ M2} {o : Option Value × M2} (h : b_Mo_advance_0  g = some b) (hb : Sum.elim (fun s => Ev Lx 43 cd_43 0 [some (.ref 157)] [] s o) (fun e => Ev Lx 43 cd_43 19 [some (.ref 157)] [] e o) b) : Ev Lx 43 cd_43 0 [some (.ref 157)] [] g o := by
  unfold b_Mo_advance_0 at h
  refine ev_rn (n := 3) (i2 := 3) (L2 := [some (.ref 157)]) (st2 := [.int (g.1 157 24), .ref 157]) (g2 := g) cdE_43 rfl ?_
  obtain ⟨q1, hq1, h⟩ := Option.bind_eq_some_iff.mp h
  refine ev_call rfl cdE_42 rfl rfl rfl (e_Mo_see (g.1 157 24)  g hq1) ?_
  refine ev_rn (n := 1) (i2 := 5) (L2 := [some (.ref 157)]) (st2 := [.int (32 : Int32), .int q1]) (g2 := g) cdE_43 rfl ?_
  by_cases hc2 : q1 = (32 : Int32)
  · rw [if_pos hc2] at h
    refine ev_ift cdE_43 rfl (cn_t hc2) ?_
    refine ev_rn (n := 5) (i2 := 17) (L2 := [some (.ref 157)]) (st2 := [.int ((g.1 157 24) + (1 : Int32)), .ref 157]) (g2 := g) cdE_43 rfl ?_
    refine bd_elim h (fun g3 hg3 h => ?_)
    refine ev_pf (g2 := g3) rfl (rfl : S0[157]? = some _) (by decide) (by rw [hg3] <;> rfl) ?_
    refine ev_rn (n := 1) (i2 := 0) (L2 := [some (.ref 157)]) (st2 := []) (g2 := g3) cdE_43 rfl ?_
    cases h
    exact ev_wk (L := [some (.ref 157)]) hb ⟨rfl, trivial⟩
  · rw [if_neg hc2] at h
    refine ev_iff rfl (cn_f hc2) ?_
    refine ev_rn (n := 3) (i2 := 9) (L2 := [some (.ref 157)]) (st2 := [.int (g.1 157 24), .ref 157]) (g2 := g) cdE_43 rfl ?_
    obtain ⟨q4, hq4, h⟩ := Option.bind_eq_some_iff.mp h
    refine ev_call rfl cdE_42 rfl rfl rfl (e_Mo_see (g.1 157 24)  g hq4) ?_
    refine ev_rn (n := 1) (i2 := 11) (L2 := [some (.ref 157)]) (st2 := [.int (10 : Int32), .int q4]) (g2 := g) cdE_43 rfl ?_
    by_cases hc5 : q4 = (10 : Int32)
    · rw [if_pos hc5] at h
      refine ev_iff rfl (cn_f (fun q => q hc5)) ?_
      refine ev_rn (n := 5) (i2 := 17) (L2 := [some (.ref 157)]) (st2 := [.int ((g.1 157 24) + (1 : Int32)), .ref 157]) (g2 := g) cdE_43 rfl ?_
      refine bd_elim h (fun g6 hg6 h => ?_)
      refine ev_pf (g2 := g6) rfl (rfl : S0[157]? = some _) (by decide) (by rw [hg6] <;> rfl) ?_
      refine ev_rn (n := 1) (i2 := 0) (L2 := [some (.ref 157)]) (st2 := []) (g2 := g6) cdE_43 rfl ?_
      cases h
      exact ev_wk (L := [some (.ref 157)]) hb ⟨rfl, trivial⟩
    · rw [if_neg hc5] at h
      refine ev_ift cdE_43 rfl (cn_t hc5) ?_
      cases h
      exact ev_wk (L := [some (.ref 157)]) hb ⟨rfl, trivial⟩
def b_Mo_advance_70   (g : M2) : Option (M2 ⊕ M2) := ((f_Mo_see (g.1 157 24) g).bind fun q19 => (if (f_Mo_in q19.toInt64 (48 : Int64) (57 : Int64) g) = 0 then some (.inr g) else ((f_Mo_see (g.1 157 24) g).bind fun q21 => (bd (uI g 157 27 (f_Ma_min (99999 : Int32) ((((10 : Int32) * (g.1 157 27)) + q21) - (48 : Int32)) g)) fun g22 => (bd (uI g22 157 24 ((g22.1 157 24) + (1 : Int32))) fun g23 => some (.inl g23))))))
theorem tb_Mo_advance_70 {Lx : Nat}    (g : M2) {b : M2 ⊕ M2} {o : Option Value × M2} (h : b_Mo_advance_70  g = some b) (hb : Sum.elim (fun s => Ev Lx 43 cd_43 70 [some (.ref 157)] [] s o) (fun e => Ev Lx 43 cd_43 101 [some (.ref 157)] [] e o) b) : Ev Lx 43 cd_43 70 [some (.ref 157)] [] g o := by
  unfold b_Mo_advance_70 at h
  refine ev_rn (n := 3) (i2 := 73) (L2 := [some (.ref 157)]) (st2 := [.int (g.1 157 24), .ref 157]) (g2 := g) cdE_43 rfl ?_
  obtain ⟨q19, hq19, h⟩ := Option.bind_eq_some_iff.mp h
  refine ev_call rfl cdE_42 rfl rfl rfl (e_Mo_see (g.1 157 24)  g hq19) ?_
  refine ev_rn (n := 3) (i2 := 77) (L2 := [some (.ref 157)]) (st2 := [.long (57 : Int64), .long (48 : Int64), .long q19.toInt64]) (g2 := g) cdE_43 rfl ?_
  refine ev_call rfl cdE_16 rfl rfl rfl (e_Mo_in q19.toInt64 (48 : Int64) (57 : Int64)  g rfl) ?_
  by_cases hc20 : (f_Mo_in q19.toInt64 (48 : Int64) (57 : Int64) g) = 0
  · rw [if_pos hc20] at h
    refine ev_zft cdE_43 rfl (cn_t hc20) ?_
    cases h
    exact ev_wk (L := [some (.ref 157)]) hb ⟨rfl, trivial⟩
  · rw [if_neg hc20] at h
    refine ev_zff rfl (cn_f hc20) ?_
    refine ev_rn (n := 9) (i2 := 88) (L2 := [some (.ref 157)]) (st2 := [.int (g.1 157 24), .ref 157, .int ((10 : Int32) * (g.1 157 27)), .int (99999 : Int32), .ref 157]) (g2 := g) cdE_43 rfl ?_
    obtain ⟨q21, hq21, h⟩ := Option.bind_eq_some_iff.mp h
    refine ev_call rfl cdE_42 rfl rfl rfl (e_Mo_see (g.1 157 24)  g hq21) ?_
    refine ev_rn (n := 3) (i2 := 92) (L2 := [some (.ref 157)]) (st2 := [.int ((((10 : Int32) * (g.1 157 27)) + q21) - (48 : Int32)), .int (99999 : Int32), .ref 157]) (g2 := g) cdE_43 rfl ?_
    refine ev_call rfl cdE_21 rfl rfl rfl (e_Ma_min (99999 : Int32) ((((10 : Int32) * (g.1 157 27)) + q21) - (48 : Int32))  g rfl) ?_
    refine bd_elim h (fun g22 hg22 h => ?_)
    refine ev_pf (g2 := g22) rfl (rfl : S0[157]? = some _) (by decide) (by rw [hg22] <;> rfl) ?_
    refine ev_rn (n := 5) (i2 := 99) (L2 := [some (.ref 157)]) (st2 := [.int ((g22.1 157 24) + (1 : Int32)), .ref 157]) (g2 := g22) cdE_43 rfl ?_
    refine bd_elim h (fun g23 hg23 h => ?_)
    refine ev_pf (g2 := g23) rfl (rfl : S0[157]? = some _) (by decide) (by rw [hg23] <;> rfl) ?_
    refine ev_rn (n := 1) (i2 := 70) (L2 := [some (.ref 157)]) (st2 := []) (g2 := g23) cdE_43 rfl ?_
    cases h
    exact ev_wk (L := [some (.ref 157)]) hb ⟨rfl, trivial⟩
def b_Mo_advance_41   (g : M2) : Option (M2 ⊕ M2) := ((f_Mo_see (g.1 157 24) g).bind fun q27 => (if (f_Mo_in q27.toInt64 (97 : Int64) (122 : Int64) g) = 0 then some (.inr g) else (bd (uI g 157 24 ((g.1 157 24) + (1 : Int32))) fun g29 => some (.inl g29))))
theorem tb_Mo_advance_41 {Lx : Nat}    (g : M2) {b : M2 ⊕ M2} {o : Option Value × M2} (h : b_Mo_advance_41  g = some b) (hb : Sum.elim (fun s => Ev Lx 43 cd_43 41 [some (.ref 157)] [] s o) (fun e => Ev Lx 43 cd_43 57 [some (.ref 157)] [] e o) b) : Ev Lx 43 cd_43 41 [some (.ref 157)] [] g o := by
  unfold b_Mo_advance_41 at h
  refine ev_rn (n := 3) (i2 := 44) (L2 := [some (.ref 157)]) (st2 := [.int (g.1 157 24), .ref 157]) (g2 := g) cdE_43 rfl ?_
  obtain ⟨q27, hq27, h⟩ := Option.bind_eq_some_iff.mp h
  refine ev_call rfl cdE_42 rfl rfl rfl (e_Mo_see (g.1 157 24)  g hq27) ?_
  refine ev_rn (n := 3) (i2 := 48) (L2 := [some (.ref 157)]) (st2 := [.long (122 : Int64), .long (97 : Int64), .long q27.toInt64]) (g2 := g) cdE_43 rfl ?_
  refine ev_call rfl cdE_16 rfl rfl rfl (e_Mo_in q27.toInt64 (97 : Int64) (122 : Int64)  g rfl) ?_
  by_cases hc28 : (f_Mo_in q27.toInt64 (97 : Int64) (122 : Int64) g) = 0
  · rw [if_pos hc28] at h
    refine ev_zft cdE_43 rfl (cn_t hc28) ?_
    cases h
    exact ev_wk (L := [some (.ref 157)]) hb ⟨rfl, trivial⟩
  · rw [if_neg hc28] at h
    refine ev_zff rfl (cn_f hc28) ?_
    refine ev_rn (n := 5) (i2 := 55) (L2 := [some (.ref 157)]) (st2 := [.int ((g.1 157 24) + (1 : Int32)), .ref 157]) (g2 := g) cdE_43 rfl ?_
    refine bd_elim h (fun g29 hg29 h => ?_)
    refine ev_pf (g2 := g29) rfl (rfl : S0[157]? = some _) (by decide) (by rw [hg29] <;> rfl) ?_
    refine ev_rn (n := 1) (i2 := 41) (L2 := [some (.ref 157)]) (st2 := []) (g2 := g29) cdE_43 rfl ?_
    cases h
    exact ev_wk (L := [some (.ref 157)]) hb ⟨rfl, trivial⟩
def f_Mo_advance  (g : M2) : Option (M2) := ((lp (fun s => b_Mo_advance_0   s) 5000 g).bind fun e7 => (bd (uI e7 157 25 (e7.1 157 24)) fun g8 => ((f_Mo_see (g8.1 157 24) g8).bind fun q9 => (if q9 = (-1 : Int32) then (bd (uI g8 157 26 (0 : Int32)) fun g33 => some g33) else (if (f_Mo_in q9.toInt64 (97 : Int64) (122 : Int64) g8) = 0 then (if (f_Mo_in q9.toInt64 (48 : Int64) (57 : Int64) g8) = 0 then (if q9 = (59 : Int32) then (bd (uI g8 157 26 (3 : Int32)) fun g16 => (bd (uI g16 157 24 ((g16.1 157 24) + (1 : Int32))) fun g17 => some g17)) else (bd (uI g8 157 26 (4 : Int32)) fun g14 => (bd (uI g14 157 24 ((g14.1 157 24) + (1 : Int32))) fun g15 => some g15))) else (bd (uI g8 157 27 (0 : Int32)) fun g18 => ((lp (fun s => b_Mo_advance_70   s) 5000 g18).bind fun e24 => (bd (uI e24 157 26 (2 : Int32)) fun g25 => some g25)))) else ((lp (fun s => b_Mo_advance_41   s) 5000 g8).bind fun e30 => (bd (uI e30 157 26 (1 : Int32)) fun g31 => some g31)))))))
theorem e_Mo_advance {Lx : Nat}   (g : M2) {b : M2} (h : f_Mo_advance  g = some b) : Ev Lx 43 cd_43 0 [some (.ref 157)] [] g (none, b) := by
  unfold f_Mo_advance at h
  obtain ⟨e7, he7, h⟩ := Option.bind_eq_some_iff.mp h
  have hX34 : Ev Lx 43 cd_43 19 [some (.ref 157)] [] e7 (none, b) := by
    refine ev_rn (n := 3) (i2 := 22) (L2 := [some (.ref 157)]) (st2 := [.int (e7.1 157 24), .ref 157]) (g2 := e7) cdE_43 rfl ?_
    refine bd_elim h (fun g8 hg8 h => ?_)
    refine ev_pf (g2 := g8) rfl (rfl : S0[157]? = some _) (by decide) (by rw [hg8] <;> rfl) ?_
    refine ev_rn (n := 3) (i2 := 26) (L2 := [some (.ref 157)]) (st2 := [.int (g8.1 157 24), .ref 157]) (g2 := g8) cdE_43 rfl ?_
    obtain ⟨q9, hq9, h⟩ := Option.bind_eq_some_iff.mp h
    refine ev_call rfl cdE_42 rfl rfl rfl (e_Mo_see (g8.1 157 24)  g8 hq9) ?_
    refine ev_rn (n := 3) (i2 := 30) (L2 := [some (.ref 157), some (.int q9)]) (st2 := [.int (-1 : Int32), .int q9]) (g2 := g8) cdE_43 rfl ?_
    by_cases hc10 : q9 = (-1 : Int32)
    · rw [if_pos hc10] at h
      refine ev_iff rfl (cn_f (fun q => q hc10)) ?_
      refine ev_rn (n := 2) (i2 := 33) (L2 := [some (.ref 157), some (.int q9)]) (st2 := [.int (0 : Int32), .ref 157]) (g2 := g8) cdE_43 rfl ?_
      refine bd_elim h (fun g33 hg33 h => ?_)
      refine ev_pf (g2 := g33) rfl (rfl : S0[157]? = some _) (by decide) (by rw [hg33] <;> rfl) ?_
      refine ev_rn (n := 1) (i2 := 119) (L2 := [some (.ref 157), some (.int q9)]) (st2 := []) (g2 := g33) cdE_43 rfl ?_
      cases h
      exact ev_ret rfl rfl
    · rw [if_neg hc10] at h
      refine ev_ift cdE_43 rfl (cn_t hc10) ?_
      refine ev_rn (n := 4) (i2 := 39) (L2 := [some (.ref 157), some (.int q9)]) (st2 := [.long (122 : Int64), .long (97 : Int64), .long q9.toInt64]) (g2 := g8) cdE_43 rfl ?_
      refine ev_call rfl cdE_16 rfl rfl rfl (e_Mo_in q9.toInt64 (97 : Int64) (122 : Int64)  g8 rfl) ?_
      by_cases hc11 : (f_Mo_in q9.toInt64 (97 : Int64) (122 : Int64) g8) = 0
      · rw [if_pos hc11] at h
        refine ev_zft cdE_43 rfl (cn_t hc11) ?_
        refine ev_rn (n := 4) (i2 := 65) (L2 := [some (.ref 157), some (.int q9)]) (st2 := [.long (57 : Int64), .long (48 : Int64), .long q9.toInt64]) (g2 := g8) cdE_43 rfl ?_
        refine ev_call rfl cdE_16 rfl rfl rfl (e_Mo_in q9.toInt64 (48 : Int64) (57 : Int64)  g8 rfl) ?_
        by_cases hc12 : (f_Mo_in q9.toInt64 (48 : Int64) (57 : Int64) g8) = 0
        · rw [if_pos hc12] at h
          refine ev_zft cdE_43 rfl (cn_t hc12) ?_
          refine ev_rn (n := 3) (i2 := 108) (L2 := [some (.ref 157), some (.int q9)]) (st2 := [.int (59 : Int32), .int q9, .ref 157]) (g2 := g8) cdE_43 rfl ?_
          by_cases hc13 : q9 = (59 : Int32)
          · rw [if_pos hc13] at h
            refine ev_iff rfl (cn_f (fun q => q hc13)) ?_
            refine ev_rn (n := 2) (i2 := 112) (L2 := [some (.ref 157), some (.int q9)]) (st2 := [.int (3 : Int32), .ref 157]) (g2 := g8) cdE_43 rfl ?_
            refine bd_elim h (fun g16 hg16 h => ?_)
            refine ev_pf (g2 := g16) rfl (rfl : S0[157]? = some _) (by decide) (by rw [hg16] <;> rfl) ?_
            refine ev_rn (n := 5) (i2 := 118) (L2 := [some (.ref 157), some (.int q9)]) (st2 := [.int ((g16.1 157 24) + (1 : Int32)), .ref 157]) (g2 := g16) cdE_43 rfl ?_
            refine bd_elim h (fun g17 hg17 h => ?_)
            refine ev_pf (g2 := g17) rfl (rfl : S0[157]? = some _) (by decide) (by rw [hg17] <;> rfl) ?_
            cases h
            exact ev_ret rfl rfl
          · rw [if_neg hc13] at h
            refine ev_ift cdE_43 rfl (cn_t hc13) ?_
            refine ev_rn (n := 1) (i2 := 112) (L2 := [some (.ref 157), some (.int q9)]) (st2 := [.int (4 : Int32), .ref 157]) (g2 := g8) cdE_43 rfl ?_
            refine bd_elim h (fun g14 hg14 h => ?_)
            refine ev_pf (g2 := g14) rfl (rfl : S0[157]? = some _) (by decide) (by rw [hg14] <;> rfl) ?_
            refine ev_rn (n := 5) (i2 := 118) (L2 := [some (.ref 157), some (.int q9)]) (st2 := [.int ((g14.1 157 24) + (1 : Int32)), .ref 157]) (g2 := g14) cdE_43 rfl ?_
            refine bd_elim h (fun g15 hg15 h => ?_)
            refine ev_pf (g2 := g15) rfl (rfl : S0[157]? = some _) (by decide) (by rw [hg15] <;> rfl) ?_
            cases h
            exact ev_ret rfl rfl
        · rw [if_neg hc12] at h
          refine ev_zff rfl (cn_f hc12) ?_
          refine ev_rn (n := 2) (i2 := 69) (L2 := [some (.ref 157), some (.int q9)]) (st2 := [.int (0 : Int32), .ref 157]) (g2 := g8) cdE_43 rfl ?_
          refine bd_elim h (fun g18 hg18 h => ?_)
          refine ev_pf (g2 := g18) rfl (rfl : S0[157]? = some _) (by decide) (by rw [hg18] <;> rfl) ?_
          obtain ⟨e24, he24, h⟩ := Option.bind_eq_some_iff.mp h
          have hX26 : Ev Lx 43 cd_43 101 [some (.ref 157)] [] e24 (none, b) := by
            refine ev_rn (n := 2) (i2 := 103) (L2 := [some (.ref 157)]) (st2 := [.int (2 : Int32), .ref 157]) (g2 := e24) cdE_43 rfl ?_
            refine bd_elim h (fun g25 hg25 h => ?_)
            refine ev_pf (g2 := g25) rfl (rfl : S0[157]? = some _) (by decide) (by rw [hg25] <;> rfl) ?_
            refine ev_rn (n := 1) (i2 := 119) (L2 := [some (.ref 157)]) (st2 := []) (g2 := g25) cdE_43 rfl ?_
            cases h
            exact ev_ret rfl rfl
          exact ev_wk (L := [some (.ref 157)]) (lp_ind (P := (fun (s : M2) => Ev Lx 43 cd_43 70 [some (.ref 157)] [] s (none, b))) (fun s s2 hs hP => tb_Mo_advance_70    s (b := .inl s2) hs hP) (fun s hs => tb_Mo_advance_70    s (b := .inr e24) hs hX26) _ _ he24) ⟨rfl, trivial⟩
      · rw [if_neg hc11] at h
        refine ev_zff rfl (cn_f hc11) ?_
        obtain ⟨e30, he30, h⟩ := Option.bind_eq_some_iff.mp h
        have hX32 : Ev Lx 43 cd_43 57 [some (.ref 157)] [] e30 (none, b) := by
          refine ev_rn (n := 2) (i2 := 59) (L2 := [some (.ref 157)]) (st2 := [.int (1 : Int32), .ref 157]) (g2 := e30) cdE_43 rfl ?_
          refine bd_elim h (fun g31 hg31 h => ?_)
          refine ev_pf (g2 := g31) rfl (rfl : S0[157]? = some _) (by decide) (by rw [hg31] <;> rfl) ?_
          refine ev_rn (n := 1) (i2 := 119) (L2 := [some (.ref 157)]) (st2 := []) (g2 := g31) cdE_43 rfl ?_
          cases h
          exact ev_ret rfl rfl
        exact ev_wk (L := [some (.ref 157)]) (lp_ind (P := (fun (s : M2) => Ev Lx 43 cd_43 41 [some (.ref 157)] [] s (none, b))) (fun s s2 hs hP => tb_Mo_advance_41    s (b := .inl s2) hs hP) (fun s hs => tb_Mo_advance_41    s (b := .inr e30) hs hX32) _ _ he30) ⟨rfl, trivial⟩
  exact ev_wk (L := [some (.ref 157)]) (lp_ind (P := (fun (s : M2) => Ev Lx 43 cd_43 0 [some (.ref 157)] [] s (none, b))) (fun s s2 hs hP => tb_Mo_advance_0    s (b := .inl s2) hs hP) (fun s hs => tb_Mo_advance_0    s (b := .inr e7) hs hX34) _ _ he7) ⟨rfl, trivial⟩
def f_Mo_good  (g : M2) : Int32 := (if (g.1 157 28) = 0 then (1 : Int32) else (0 : Int32))
theorem e_Mo_good {Lx : Nat}   (g : M2) {b : Int32} (h : f_Mo_good  g = b) : Ev Lx 44 cd_44 0 [some (.ref 157)] [] g (some (.int b), g) := by
  unfold f_Mo_good at h
  refine ev_rn (n := 2) (i2 := 2) (L2 := [some (.ref 157)]) (st2 := [.int (g.1 157 28)]) (g2 := g) cdE_44 rfl ?_
  by_cases hc1 : (g.1 157 28) = 0
  · rw [if_pos hc1] at h
    refine ev_zff rfl (cn_f (fun q => q hc1)) ?_
    refine ev_rn (n := 2) (i2 := 6) (L2 := [some (.ref 157)]) (st2 := [.int (1 : Int32)]) (g2 := g) cdE_44 rfl ?_
    subst h
    exact ev_ret rfl rt_1
  · rw [if_neg hc1] at h
    refine ev_zft cdE_44 rfl (cn_t hc1) ?_
    refine ev_rn (n := 1) (i2 := 6) (L2 := [some (.ref 157)]) (st2 := [.int (0 : Int32)]) (g2 := g) cdE_44 rfl ?_
    subst h
    exact ev_ret rfl rt_0
def b_Mo_is_21 (v1 : Nat) (v2 : Int32) (v3 : Int32) (g : M2) : Option ((Int32 × Int32) ⊕ Int32) := (if (nI (mm_tx v1).length) ≤ v3 then some (.inr v2) else (if v2 = 0 then some (.inr v2) else (if inb ((g.1 157 25) + v3) 300 then (if inb v3 (mm_tx v1).length then (if (g.1 167 ((g.1 157 25) + v3).toNatClampNeg) = (nI ((mm_tx v1).getD v3.toNatClampNeg 0)) then some (.inl ((1 : Int32), (v3 + (1 : Int32)))) else some (.inl ((0 : Int32), (v3 + (1 : Int32))))) else none) else none)))
theorem tb_Mo_is_21 {Lx : Nat} (v1 : Nat) (hv1 : IsStr v1) (v2 : Int32) (v3 : Int32) (g : M2) {b : (Int32 × Int32) ⊕ Int32} {o : Option Value × M2} (h : b_Mo_is_21 v1 v2 v3 g = some b) (hb : Sum.elim (fun s => Ev Lx 45 cd_45 21 [some (.ref 157), some (.ref v1), some (.int s.1), some (.int s.2)] [] g o) (fun e => Ev Lx 45 cd_45 44 [none, none, some (.int e)] [] g o) b) : Ev Lx 45 cd_45 21 [some (.ref 157), some (.ref v1), some (.int v2), some (.int v3)] [] g o := by
  unfold b_Mo_is_21 at h
  refine ev_rn (n := 2) (i2 := 23) (L2 := [some (.ref 157), some (.ref v1), some (.int v2), some (.int v3)]) (st2 := [.ref v1, .int v3]) (g2 := g) cdE_45 rfl ?_
  refine ev_sl rfl (Nat.le_of_ble_eq_true rfl) hv1 ?_
  by_cases hc2 : (nI (mm_tx v1).length) ≤ v3
  · rw [if_pos hc2] at h
    refine ev_ift cdE_45 rfl (cn_t hc2) ?_
    cases h
    exact ev_wk (L := [none, none, some (.int v2)]) hb ⟨rfl, trivial⟩
  · rw [if_neg hc2] at h
    refine ev_iff rfl (cn_f hc2) ?_
    refine ev_rn (n := 1) (i2 := 26) (L2 := [some (.ref 157), some (.ref v1), some (.int v2), some (.int v3)]) (st2 := [.int v2]) (g2 := g) cdE_45 rfl ?_
    by_cases hc3 : v2 = 0
    · rw [if_pos hc3] at h
      refine ev_zft cdE_45 rfl (cn_t hc3) ?_
      cases h
      exact ev_wk (L := [none, none, some (.int v2)]) hb ⟨rfl, trivial⟩
    · rw [if_neg hc3] at h
      refine ev_zff rfl (cn_f hc3) ?_
      refine ev_rn (n := 6) (i2 := 33) (L2 := [some (.ref 157), some (.ref v1), some (.int v2), some (.int v3)]) (st2 := [.int ((g.1 157 25) + v3), .ref 167]) (g2 := g) cdE_45 rfl ?_
      by_cases hi4 : inb ((g.1 157 25) + v3) 300
      · rw [if_pos hi4] at h
        refine ev_baload (v := .int (g.1 167 ((g.1 157 25) + v3).toNatClampNeg)) rfl (kd_of (show S0[167]? = some (102, 300, List.replicate 300 none) from rfl)) (by decide) hi4 rfl ?_
        refine ev_rn (n := 2) (i2 := 36) (L2 := [some (.ref 157), some (.ref v1), some (.int v2), some (.int v3)]) (st2 := [.int v3, .ref v1, .int (g.1 167 ((g.1 157 25) + v3).toNatClampNeg)]) (g2 := g) cdE_45 rfl ?_
        by_cases hs5 : inb v3 (mm_tx v1).length
        · rw [if_pos hs5] at h
          refine ev_sc rfl (Nat.le_of_ble_eq_true rfl) hv1 hs5 ?_
          by_cases hc6 : (g.1 167 ((g.1 157 25) + v3).toNatClampNeg) = (nI ((mm_tx v1).getD v3.toNatClampNeg 0))
          · rw [if_pos hc6] at h
            refine ev_iff rfl (cn_f (fun q => q hc6)) ?_
            refine ev_rn (n := 4) (i2 := 43) (L2 := [some (.ref 157), some (.ref v1), some (.int (1 : Int32)), some (.int (v3 + (1 : Int32)))]) (st2 := []) (g2 := g) cdE_45 rfl ?_
            refine ev_rn (n := 1) (i2 := 21) (L2 := [some (.ref 157), some (.ref v1), some (.int (1 : Int32)), some (.int (v3 + (1 : Int32)))]) (st2 := []) (g2 := g) cdE_45 rfl ?_
            cases h
            exact ev_wk (L := [some (.ref 157), some (.ref v1), some (.int (1 : Int32)), some (.int (v3 + (1 : Int32)))]) hb ⟨rfl, ⟨rfl, ⟨rfl, ⟨rfl, trivial⟩⟩⟩⟩
          · rw [if_neg hc6] at h
            refine ev_ift cdE_45 rfl (cn_t hc6) ?_
            refine ev_rn (n := 3) (i2 := 43) (L2 := [some (.ref 157), some (.ref v1), some (.int (0 : Int32)), some (.int (v3 + (1 : Int32)))]) (st2 := []) (g2 := g) cdE_45 rfl ?_
            refine ev_rn (n := 1) (i2 := 21) (L2 := [some (.ref 157), some (.ref v1), some (.int (0 : Int32)), some (.int (v3 + (1 : Int32)))]) (st2 := []) (g2 := g) cdE_45 rfl ?_
            cases h
            exact ev_wk (L := [some (.ref 157), some (.ref v1), some (.int (0 : Int32)), some (.int (v3 + (1 : Int32)))]) hb ⟨rfl, ⟨rfl, ⟨rfl, ⟨rfl, trivial⟩⟩⟩⟩
        · rw [if_neg hs5] at h
          cases h
      · rw [if_neg hi4] at h
        cases h
def j_Mo_is_19 (v1 : Nat) (v2 : Int32) (g : M2) : Option (Int32) := ((lp (fun s => b_Mo_is_21 v1 s.1 s.2 g) 5000 (v2, (0 : Int32))).bind fun e7 => some (e7 &&& 1))
theorem tj_Mo_is_19 {Lx : Nat}  (v1 : Nat) (v2 : Int32) (hv1 : IsStr v1) (g : M2) {b : Int32} (h : j_Mo_is_19 v1 v2 g = some b) : Ev Lx 45 cd_45 19 [some (.ref 157), some (.ref v1), some (.int v2)] [] g (some (.int b), g) := by
  unfold j_Mo_is_19 at h
  refine ev_rn (n := 2) (i2 := 21) (L2 := [some (.ref 157), some (.ref v1), some (.int v2), some (.int (0 : Int32))]) (st2 := []) (g2 := g) cdE_45 rfl ?_
  obtain ⟨e7, he7, h⟩ := Option.bind_eq_some_iff.mp h
  have hX8 : Ev Lx 45 cd_45 44 [none, none, some (.int e7)] [] g (some (.int b), g) := by
    refine ev_rn (n := 1) (i2 := 45) (L2 := [none, none, some (.int e7)]) (st2 := [.int e7]) (g2 := g) cdE_45 rfl ?_
    cases h
    exact ev_ret rfl rfl
  exact ev_wk (L := [some (.ref 157), some (.ref v1), some (.int v2), some (.int (0 : Int32))]) (lp_ind (P := (fun (s : (Int32 × Int32)) => Ev Lx 45 cd_45 21 [some (.ref 157), some (.ref v1), some (.int s.1), some (.int s.2)] [] g (some (.int b), g))) (fun s s2 hs hP => tb_Mo_is_21 v1 hv1 s.1 s.2 g (b := .inl s2) hs hP) (fun s hs => tb_Mo_is_21 v1 hv1 s.1 s.2 g (b := .inr e7) hs hX8) _ _ he7) ⟨rfl, ⟨rfl, ⟨rfl, ⟨rfl, trivial⟩⟩⟩⟩
def j_Mo_is_17 (v1 : Nat) (g : M2) : Option (Int32) := (j_Mo_is_19 v1 (0 : Int32) g)
theorem tj_Mo_is_17 {Lx : Nat}  (v1 : Nat) (hv1 : IsStr v1) (g : M2) {b : Int32} (h : j_Mo_is_17 v1 g = some b) : Ev Lx 45 cd_45 17 [some (.ref 157), some (.ref v1)] [] g (some (.int b), g) := by
  unfold j_Mo_is_17 at h
  refine ev_rn (n := 2) (i2 := 19) (L2 := [some (.ref 157), some (.ref v1), some (.int (0 : Int32))]) (st2 := []) (g2 := g) cdE_45 rfl ?_
  exact ev_wk (L := [some (.ref 157), some (.ref v1), some (.int (0 : Int32))]) (tj_Mo_is_19  v1 (0 : Int32) hv1 g h) ⟨rfl, ⟨rfl, ⟨rfl, trivial⟩⟩⟩
def f_Mo_is (p0 : Nat) (g : M2) : Option (Int32) := (if (f_Mo_good g) = 0 then (j_Mo_is_17 p0 g) else (if (g.1 157 26) = (1 : Int32) then (if ((g.1 157 24) - (g.1 157 25)) = (nI (mm_tx p0).length) then (j_Mo_is_19 p0 (1 : Int32) g) else (j_Mo_is_17 p0 g)) else (j_Mo_is_17 p0 g)))
theorem e_Mo_is {Lx : Nat} (p0 : Nat) (hp0 : IsStr p0) (g : M2) {b : Int32} (h : f_Mo_is p0 g = some b) : Ev Lx 45 cd_45 0 [some (.ref 157), some (.ref p0)] [] g (some (.int b), g) := by
  unfold f_Mo_is at h
  refine ev_rn (n := 1) (i2 := 1) (L2 := [some (.ref 157), some (.ref p0)]) (st2 := [.ref 157]) (g2 := g) cdE_45 rfl ?_
  refine ev_call rfl cdE_44 rfl rfl rfl (e_Mo_good   g rfl) ?_
  by_cases hc1 : (f_Mo_good g) = 0
  · rw [if_pos hc1] at h
    refine ev_zft cdE_45 rfl (cn_t hc1) ?_
    exact ev_wk (L := [some (.ref 157), some (.ref p0)]) (tj_Mo_is_17  p0 hp0 g h) ⟨rfl, ⟨rfl, trivial⟩⟩
  · rw [if_neg hc1] at h
    refine ev_zff rfl (cn_f hc1) ?_
    refine ev_rn (n := 3) (i2 := 6) (L2 := [some (.ref 157), some (.ref p0)]) (st2 := [.int (1 : Int32), .int (g.1 157 26)]) (g2 := g) cdE_45 rfl ?_
    by_cases hc9 : (g.1 157 26) = (1 : Int32)
    · rw [if_pos hc9] at h
      refine ev_iff rfl (cn_f (fun q => q hc9)) ?_
      refine ev_rn (n := 6) (i2 := 13) (L2 := [some (.ref 157), some (.ref p0)]) (st2 := [.ref p0, .int ((g.1 157 24) - (g.1 157 25))]) (g2 := g) cdE_45 rfl ?_
      refine ev_sl rfl (Nat.le_of_ble_eq_true rfl) hp0 ?_
      by_cases hc10 : ((g.1 157 24) - (g.1 157 25)) = (nI (mm_tx p0).length)
      · rw [if_pos hc10] at h
        refine ev_iff rfl (cn_f (fun q => q hc10)) ?_
        refine ev_rn (n := 3) (i2 := 19) (L2 := [some (.ref 157), some (.ref p0), some (.int (1 : Int32))]) (st2 := []) (g2 := g) cdE_45 rfl ?_
        exact ev_wk (L := [some (.ref 157), some (.ref p0), some (.int (1 : Int32))]) (tj_Mo_is_19  p0 (1 : Int32) hp0 g h) ⟨rfl, ⟨rfl, ⟨rfl, trivial⟩⟩⟩
      · rw [if_neg hc10] at h
        refine ev_ift cdE_45 rfl (cn_t hc10) ?_
        exact ev_wk (L := [some (.ref 157), some (.ref p0)]) (tj_Mo_is_17  p0 hp0 g h) ⟨rfl, ⟨rfl, trivial⟩⟩
    · rw [if_neg hc9] at h
      refine ev_ift cdE_45 rfl (cn_t hc9) ?_
      exact ev_wk (L := [some (.ref 157), some (.ref p0)]) (tj_Mo_is_17  p0 hp0 g h) ⟨rfl, ⟨rfl, trivial⟩⟩
def f_Mo_errs (p0 : Int32) (g : M2) : Option (M2) := (if (f_Mo_good g) = 0 then some g else (bd (uI g 157 28 p0) fun g2 => (bd (uI g2 157 29 (g2.1 157 25)) fun g3 => some g3)))
theorem e_Mo_errs {Lx : Nat} (p0 : Int32)  (g : M2) {b : M2} (h : f_Mo_errs p0 g = some b) : Ev Lx 46 cd_46 0 [some (.ref 157), some (.int p0)] [] g (none, b) := by
  unfold f_Mo_errs at h
  refine ev_rn (n := 1) (i2 := 1) (L2 := [some (.ref 157), some (.int p0)]) (st2 := [.ref 157]) (g2 := g) cdE_46 rfl ?_
  refine ev_call rfl cdE_44 rfl rfl rfl (e_Mo_good   g rfl) ?_
  by_cases hc1 : (f_Mo_good g) = 0
  · rw [if_pos hc1] at h
    refine ev_zff rfl (cn_f (fun q => q hc1)) ?_
    cases h
    exact ev_ret rfl rfl
  · rw [if_neg hc1] at h
    refine ev_zft cdE_46 rfl (cn_t hc1) ?_
    refine ev_rn (n := 2) (i2 := 6) (L2 := [some (.ref 157), some (.int p0)]) (st2 := [.int p0, .ref 157]) (g2 := g) cdE_46 rfl ?_
    refine bd_elim h (fun g2 hg2 h => ?_)
    refine ev_pf (g2 := g2) rfl (rfl : S0[157]? = some _) (by decide) (by rw [hg2] <;> rfl) ?_
    refine ev_rn (n := 3) (i2 := 10) (L2 := [some (.ref 157), some (.int p0)]) (st2 := [.int (g2.1 157 25), .ref 157]) (g2 := g2) cdE_46 rfl ?_
    refine bd_elim h (fun g3 hg3 h => ?_)
    refine ev_pf (g2 := g3) rfl (rfl : S0[157]? = some _) (by decide) (by rw [hg3] <;> rfl) ?_
    cases h
    exact ev_ret rfl rfl
def f_Mo_expects (p0 : Nat) (g : M2) : Option (M2) := ((f_Mo_is p0 g).bind fun q1 => (if q1 = 0 then ((f_Mo_errs (1 : Int32) g).bind fun q3 => some q3) else ((f_Mo_advance g).bind fun q4 => some q4)))
theorem e_Mo_expects {Lx : Nat} (p0 : Nat) (hp0 : IsStr p0) (g : M2) {b : M2} (h : f_Mo_expects p0 g = some b) : Ev Lx 47 cd_47 0 [some (.ref 157), some (.ref p0)] [] g (none, b) := by
  unfold f_Mo_expects at h
  refine ev_rn (n := 2) (i2 := 2) (L2 := [some (.ref 157), some (.ref p0)]) (st2 := [.ref p0, .ref 157]) (g2 := g) cdE_47 rfl ?_
  obtain ⟨q1, hq1, h⟩ := Option.bind_eq_some_iff.mp h
  refine ev_call rfl cdE_45 rfl rfl rfl (e_Mo_is p0 hp0 g hq1) ?_
  by_cases hc2 : q1 = 0
  · rw [if_pos hc2] at h
    refine ev_zft cdE_47 rfl (cn_t hc2) ?_
    refine ev_rn (n := 2) (i2 := 9) (L2 := [some (.ref 157), some (.ref p0)]) (st2 := [.int (1 : Int32), .ref 157]) (g2 := g) cdE_47 rfl ?_
    obtain ⟨q3, hq3, h⟩ := Option.bind_eq_some_iff.mp h
    refine ev_call rfl cdE_46 rfl rfl rfl (e_Mo_errs (1 : Int32)  g hq3) ?_
    cases h
    exact ev_ret rfl rfl
  · rw [if_neg hc2] at h
    refine ev_zff rfl (cn_f hc2) ?_
    refine ev_rn (n := 1) (i2 := 5) (L2 := [some (.ref 157), some (.ref p0)]) (st2 := [.ref 157]) (g2 := g) cdE_47 rfl ?_
    obtain ⟨q4, hq4, h⟩ := Option.bind_eq_some_iff.mp h
    refine ev_call rfl cdE_43 rfl rfl rfl (e_Mo_advance   g hq4) ?_
    refine ev_rn (n := 1) (i2 := 10) (L2 := [some (.ref 157), some (.ref p0)]) (st2 := []) (g2 := q4) cdE_47 rfl ?_
    cases h
    exact ev_ret rfl rfl
def j_Mo_takes_25  (g : M2) : Option (Int32 × M2) := (if (f_Mo_good g) = 0 then some ((0 : Int32), g) else ((f_Mo_advance g).bind fun q4 => some ((g.1 157 27), q4)))
theorem tj_Mo_takes_25 {Lx : Nat}    (g : M2) {b : (Int32 × M2)} (h : j_Mo_takes_25  g = some b) : Ev Lx 48 cd_48 25 [some (.ref 157)] [] g (some (.int b.1), b.2) := by
  unfold j_Mo_takes_25 at h
  refine ev_rn (n := 1) (i2 := 26) (L2 := [some (.ref 157)]) (st2 := [.ref 157]) (g2 := g) cdE_48 rfl ?_
  refine ev_call rfl cdE_44 rfl rfl rfl (e_Mo_good   g rfl) ?_
  by_cases hc3 : (f_Mo_good g) = 0
  · rw [if_pos hc3] at h
    refine ev_zff rfl (cn_f (fun q => q hc3)) ?_
    refine ev_rn (n := 1) (i2 := 29) (L2 := [some (.ref 157)]) (st2 := [.int (0 : Int32)]) (g2 := g) cdE_48 rfl ?_
    cases h
    exact ev_ret rfl rfl
  · rw [if_neg hc3] at h
    refine ev_zft cdE_48 rfl (cn_t hc3) ?_
    refine ev_rn (n := 4) (i2 := 34) (L2 := [some (.ref 157), none, none, some (.int (g.1 157 27))]) (st2 := [.ref 157]) (g2 := g) cdE_48 rfl ?_
    obtain ⟨q4, hq4, h⟩ := Option.bind_eq_some_iff.mp h
    refine ev_call rfl cdE_43 rfl rfl rfl (e_Mo_advance   g hq4) ?_
    refine ev_rn (n := 1) (i2 := 36) (L2 := [some (.ref 157), none, none, some (.int (g.1 157 27))]) (st2 := [.int (g.1 157 27)]) (g2 := q4) cdE_48 rfl ?_
    cases h
    exact ev_ret rfl rfl
def j_Mo_takes_10 (v1 : Int32) (v2 : Int32) (g : M2) : Option (Int32 × M2) := (if (f_Mo_good g) = 0 then (j_Mo_takes_25  g) else (if (f_Mo_in (g.1 157 27).toInt64 v1.toInt64 v2.toInt64 g) = 0 then ((f_Mo_errs (2 : Int32) g).bind fun q6 => (j_Mo_takes_25  q6)) else (j_Mo_takes_25  g)))
theorem tj_Mo_takes_10 {Lx : Nat}  (v1 : Int32) (v2 : Int32)  (g : M2) {b : (Int32 × M2)} (h : j_Mo_takes_10 v1 v2 g = some b) : Ev Lx 48 cd_48 10 [some (.ref 157), some (.int v1), some (.int v2)] [] g (some (.int b.1), b.2) := by
  unfold j_Mo_takes_10 at h
  refine ev_rn (n := 1) (i2 := 11) (L2 := [some (.ref 157), some (.int v1), some (.int v2)]) (st2 := [.ref 157]) (g2 := g) cdE_48 rfl ?_
  refine ev_call rfl cdE_44 rfl rfl rfl (e_Mo_good   g rfl) ?_
  by_cases hc2 : (f_Mo_good g) = 0
  · rw [if_pos hc2] at h
    refine ev_zft cdE_48 rfl (cn_t hc2) ?_
    exact ev_wk (L := [some (.ref 157)]) (tj_Mo_takes_25    g h) ⟨rfl, trivial⟩
  · rw [if_neg hc2] at h
    refine ev_zff rfl (cn_f hc2) ?_
    refine ev_rn (n := 7) (i2 := 20) (L2 := [some (.ref 157), some (.int v1), some (.int v2)]) (st2 := [.long v2.toInt64, .long v1.toInt64, .long (g.1 157 27).toInt64]) (g2 := g) cdE_48 rfl ?_
    refine ev_call rfl cdE_16 rfl rfl rfl (e_Mo_in (g.1 157 27).toInt64 v1.toInt64 v2.toInt64  g rfl) ?_
    by_cases hc5 : (f_Mo_in (g.1 157 27).toInt64 v1.toInt64 v2.toInt64 g) = 0
    · rw [if_pos hc5] at h
      refine ev_zff rfl (cn_f (fun q => q hc5)) ?_
      refine ev_rn (n := 2) (i2 := 24) (L2 := [some (.ref 157), some (.int v1), some (.int v2)]) (st2 := [.int (2 : Int32), .ref 157]) (g2 := g) cdE_48 rfl ?_
      obtain ⟨q6, hq6, h⟩ := Option.bind_eq_some_iff.mp h
      refine ev_call rfl cdE_46 rfl rfl rfl (e_Mo_errs (2 : Int32)  g hq6) ?_
      exact ev_wk (L := [some (.ref 157)]) (tj_Mo_takes_25    q6 h) ⟨rfl, trivial⟩
    · rw [if_neg hc5] at h
      refine ev_zft cdE_48 rfl (cn_t hc5) ?_
      exact ev_wk (L := [some (.ref 157)]) (tj_Mo_takes_25    g h) ⟨rfl, trivial⟩
def f_Mo_takes (p0 : Int32) (p1 : Int32) (g : M2) : Option (Int32 × M2) := (if (f_Mo_good g) = 0 then (j_Mo_takes_10 p0 p1 g) else (if (g.1 157 26) = (2 : Int32) then (j_Mo_takes_10 p0 p1 g) else ((f_Mo_errs (1 : Int32) g).bind fun q8 => (j_Mo_takes_10 p0 p1 q8))))
theorem e_Mo_takes {Lx : Nat} (p0 : Int32) (p1 : Int32)  (g : M2) {b : (Int32 × M2)} (h : f_Mo_takes p0 p1 g = some b) : Ev Lx 48 cd_48 0 [some (.ref 157), some (.int p0), some (.int p1)] [] g (some (.int b.1), b.2) := by
  unfold f_Mo_takes at h
  refine ev_rn (n := 1) (i2 := 1) (L2 := [some (.ref 157), some (.int p0), some (.int p1)]) (st2 := [.ref 157]) (g2 := g) cdE_48 rfl ?_
  refine ev_call rfl cdE_44 rfl rfl rfl (e_Mo_good   g rfl) ?_
  by_cases hc1 : (f_Mo_good g) = 0
  · rw [if_pos hc1] at h
    refine ev_zft cdE_48 rfl (cn_t hc1) ?_
    exact ev_wk (L := [some (.ref 157), some (.int p0), some (.int p1)]) (tj_Mo_takes_10  p0 p1  g h) ⟨rfl, ⟨rfl, ⟨rfl, trivial⟩⟩⟩
  · rw [if_neg hc1] at h
    refine ev_zff rfl (cn_f hc1) ?_
    refine ev_rn (n := 3) (i2 := 6) (L2 := [some (.ref 157), some (.int p0), some (.int p1)]) (st2 := [.int (2 : Int32), .int (g.1 157 26)]) (g2 := g) cdE_48 rfl ?_
    by_cases hc7 : (g.1 157 26) = (2 : Int32)
    · rw [if_pos hc7] at h
      refine ev_ift cdE_48 rfl (cn_t hc7) ?_
      exact ev_wk (L := [some (.ref 157), some (.int p0), some (.int p1)]) (tj_Mo_takes_10  p0 p1  g h) ⟨rfl, ⟨rfl, ⟨rfl, trivial⟩⟩⟩
    · rw [if_neg hc7] at h
      refine ev_iff rfl (cn_f hc7) ?_
      refine ev_rn (n := 2) (i2 := 9) (L2 := [some (.ref 157), some (.int p0), some (.int p1)]) (st2 := [.int (1 : Int32), .ref 157]) (g2 := g) cdE_48 rfl ?_
      obtain ⟨q8, hq8, h⟩ := Option.bind_eq_some_iff.mp h
      refine ev_call rfl cdE_46 rfl rfl rfl (e_Mo_errs (1 : Int32)  g hq8) ?_
      exact ev_wk (L := [some (.ref 157), some (.int p0), some (.int p1)]) (tj_Mo_takes_10  p0 p1  q8 h) ⟨rfl, ⟨rfl, ⟨rfl, trivial⟩⟩⟩
def b_Mo_readElement_18 (v1 : Int32) (v2 : Int32) (v3 : Int32) (g : M2) : Option ((Int32 × M2) ⊕ M2) := (if v2 ≤ v3 then some (.inr g) else (if (f_Mo_good g) = 0 then some (.inl ((v3 + (1 : Int32)), g)) else (if (g.1 157 26) = (2 : Int32) then (if inb ((2 : Int32) + v3) 19 then (if (g.1 161 ((2 : Int32) + v3).toNatClampNeg) = (g.1 157 27) then ((f_Mo_errs (2 : Int32) g).bind fun q8 => some (.inl ((v3 + (1 : Int32)), q8))) else some (.inl ((v3 + (1 : Int32)), g))) else none) else some (.inl ((v3 + (1 : Int32)), g)))))
theorem tb_Mo_readElement_18 {Lx : Nat} (v1 : Int32) (v2 : Int32)  (v3 : Int32) (g : M2) {b : (Int32 × M2) ⊕ M2} {o : Option Value × M2} (h : b_Mo_readElement_18 v1 v2 v3 g = some b) (hb : Sum.elim (fun s => Ev Lx 49 cd_49 18 [some (.ref 157), some (.int v1), some (.int v2), some (.int s.1)] [] s.2 o) (fun e => Ev Lx 49 cd_49 42 [some (.ref 157), some (.int v1), some (.int v2)] [] e o) b) : Ev Lx 49 cd_49 18 [some (.ref 157), some (.int v1), some (.int v2), some (.int v3)] [] g o := by
  unfold b_Mo_readElement_18 at h
  refine ev_rn (n := 2) (i2 := 20) (L2 := [some (.ref 157), some (.int v1), some (.int v2), some (.int v3)]) (st2 := [.int v2, .int v3]) (g2 := g) cdE_49 rfl ?_
  by_cases hc3 : v2 ≤ v3
  · rw [if_pos hc3] at h
    refine ev_ift cdE_49 rfl (cn_t hc3) ?_
    cases h
    exact ev_wk (L := [some (.ref 157), some (.int v1), some (.int v2)]) hb ⟨rfl, ⟨rfl, ⟨rfl, trivial⟩⟩⟩
  · rw [if_neg hc3] at h
    refine ev_iff rfl (cn_f hc3) ?_
    refine ev_rn (n := 1) (i2 := 22) (L2 := [some (.ref 157), some (.int v1), some (.int v2), some (.int v3)]) (st2 := [.ref 157]) (g2 := g) cdE_49 rfl ?_
    refine ev_call rfl cdE_44 rfl rfl rfl (e_Mo_good   g rfl) ?_
    by_cases hc4 : (f_Mo_good g) = 0
    · rw [if_pos hc4] at h
      refine ev_zft cdE_49 rfl (cn_t hc4) ?_
      refine ev_rn (n := 2) (i2 := 18) (L2 := [some (.ref 157), some (.int v1), some (.int v2), some (.int (v3 + (1 : Int32)))]) (st2 := []) (g2 := g) cdE_49 rfl ?_
      cases h
      exact ev_wk (L := [some (.ref 157), some (.int v1), some (.int v2), some (.int (v3 + (1 : Int32)))]) hb ⟨rfl, ⟨rfl, ⟨rfl, ⟨rfl, trivial⟩⟩⟩⟩
    · rw [if_neg hc4] at h
      refine ev_zff rfl (cn_f hc4) ?_
      refine ev_rn (n := 3) (i2 := 27) (L2 := [some (.ref 157), some (.int v1), some (.int v2), some (.int v3)]) (st2 := [.int (2 : Int32), .int (g.1 157 26)]) (g2 := g) cdE_49 rfl ?_
      by_cases hc5 : (g.1 157 26) = (2 : Int32)
      · rw [if_pos hc5] at h
        refine ev_iff rfl (cn_f (fun q => q hc5)) ?_
        refine ev_rn (n := 5) (i2 := 33) (L2 := [some (.ref 157), some (.int v1), some (.int v2), some (.int v3)]) (st2 := [.int ((2 : Int32) + v3), .ref 161]) (g2 := g) cdE_49 rfl ?_
        by_cases hi6 : inb ((2 : Int32) + v3) 19
        · rw [if_pos hi6] at h
          refine ev_iaload (v := .int (g.1 161 ((2 : Int32) + v3).toNatClampNeg)) rfl (kd_of (show S0[161]? = some (100, 19, List.replicate 19 none) from rfl)) (by decide) hi6 rfl ?_
          refine ev_rn (n := 2) (i2 := 36) (L2 := [some (.ref 157), some (.int v1), some (.int v2), some (.int v3)]) (st2 := [.int (g.1 157 27), .int (g.1 161 ((2 : Int32) + v3).toNatClampNeg)]) (g2 := g) cdE_49 rfl ?_
          by_cases hc7 : (g.1 161 ((2 : Int32) + v3).toNatClampNeg) = (g.1 157 27)
          · rw [if_pos hc7] at h
            refine ev_iff rfl (cn_f (fun q => q hc7)) ?_
            refine ev_rn (n := 2) (i2 := 39) (L2 := [some (.ref 157), some (.int v1), some (.int v2), some (.int v3)]) (st2 := [.int (2 : Int32), .ref 157]) (g2 := g) cdE_49 rfl ?_
            obtain ⟨q8, hq8, h⟩ := Option.bind_eq_some_iff.mp h
            refine ev_call rfl cdE_46 rfl rfl rfl (e_Mo_errs (2 : Int32)  g hq8) ?_
            refine ev_rn (n := 2) (i2 := 18) (L2 := [some (.ref 157), some (.int v1), some (.int v2), some (.int (v3 + (1 : Int32)))]) (st2 := []) (g2 := q8) cdE_49 rfl ?_
            cases h
            exact ev_wk (L := [some (.ref 157), some (.int v1), some (.int v2), some (.int (v3 + (1 : Int32)))]) hb ⟨rfl, ⟨rfl, ⟨rfl, ⟨rfl, trivial⟩⟩⟩⟩
          · rw [if_neg hc7] at h
            refine ev_ift cdE_49 rfl (cn_t hc7) ?_
            refine ev_rn (n := 2) (i2 := 18) (L2 := [some (.ref 157), some (.int v1), some (.int v2), some (.int (v3 + (1 : Int32)))]) (st2 := []) (g2 := g) cdE_49 rfl ?_
            cases h
            exact ev_wk (L := [some (.ref 157), some (.int v1), some (.int v2), some (.int (v3 + (1 : Int32)))]) hb ⟨rfl, ⟨rfl, ⟨rfl, ⟨rfl, trivial⟩⟩⟩⟩
        · rw [if_neg hi6] at h
          cases h
      · rw [if_neg hc5] at h
        refine ev_ift cdE_49 rfl (cn_t hc5) ?_
        refine ev_rn (n := 2) (i2 := 18) (L2 := [some (.ref 157), some (.int v1), some (.int v2), some (.int (v3 + (1 : Int32)))]) (st2 := []) (g2 := g) cdE_49 rfl ?_
        cases h
        exact ev_wk (L := [some (.ref 157), some (.int v1), some (.int v2), some (.int (v3 + (1 : Int32)))]) hb ⟨rfl, ⟨rfl, ⟨rfl, ⟨rfl, trivial⟩⟩⟩⟩
def j_Mo_readElement_16 (v1 : Int32) (v2 : Int32) (g : M2) : Option (M2) := ((lp (fun s => b_Mo_readElement_18 v1 v2 s.1 s.2) 5000 ((0 : Int32), g)).bind fun e9 => ((f_Mo_takes (0 : Int32) (11 : Int32) e9).bind fun q10 => (if (f_Mo_good q10.2) = 0 then some q10.2 else (if inb ((2 : Int32) + v2) 19 then (bd (uI q10.2 161 ((2 : Int32) + v2).toNatClampNeg q10.1) fun g12 => (if inb ((7 : Int32) + v2) 19 then (bd (uI g12 161 ((7 : Int32) + v2).toNatClampNeg v1) fun g13 => (bd (uI g13 161 1 ((g13.1 161 1) + (1 : Int32))) fun g14 => some g14)) else none)) else none))))
theorem tj_Mo_readElement_16 {Lx : Nat}  (v1 : Int32) (v2 : Int32)  (g : M2) {b : M2} (h : j_Mo_readElement_16 v1 v2 g = some b) : Ev Lx 49 cd_49 16 [some (.ref 157), some (.int v1), some (.int v2)] [] g (none, b) := by
  unfold j_Mo_readElement_16 at h
  refine ev_rn (n := 2) (i2 := 18) (L2 := [some (.ref 157), some (.int v1), some (.int v2), some (.int (0 : Int32))]) (st2 := []) (g2 := g) cdE_49 rfl ?_
  obtain ⟨e9, he9, h⟩ := Option.bind_eq_some_iff.mp h
  have hX17 : Ev Lx 49 cd_49 42 [some (.ref 157), some (.int v1), some (.int v2)] [] e9 (none, b) := by
    refine ev_rn (n := 3) (i2 := 45) (L2 := [some (.ref 157), some (.int v1), some (.int v2)]) (st2 := [.int (11 : Int32), .int (0 : Int32), .ref 157]) (g2 := e9) cdE_49 rfl ?_
    obtain ⟨q10, hq10, h⟩ := Option.bind_eq_some_iff.mp h
    refine ev_call rfl cdE_48 rfl rfl rfl (e_Mo_takes (0 : Int32) (11 : Int32)  e9 hq10) ?_
    refine ev_rn (n := 2) (i2 := 48) (L2 := [some (.ref 157), some (.int v1), some (.int v2), some (.int q10.1)]) (st2 := [.ref 157]) (g2 := q10.2) cdE_49 rfl ?_
    refine ev_call rfl cdE_44 rfl rfl rfl (e_Mo_good   q10.2 rfl) ?_
    by_cases hc11 : (f_Mo_good q10.2) = 0
    · rw [if_pos hc11] at h
      refine ev_zff rfl (cn_f (fun q => q hc11)) ?_
      cases h
      exact ev_ret rfl rfl
    · rw [if_neg hc11] at h
      refine ev_zft cdE_49 rfl (cn_t hc11) ?_
      refine ev_rn (n := 6) (i2 := 57) (L2 := [some (.ref 157), some (.int v1), some (.int v2), some (.int q10.1)]) (st2 := [.int q10.1, .int ((2 : Int32) + v2), .ref 161]) (g2 := q10.2) cdE_49 rfl ?_
      by_cases hi16 : inb ((2 : Int32) + v2) 19
      · rw [if_pos hi16] at h
        refine bd_elim h (fun g12 hg12 h => ?_)
        refine ev_iastore (g2 := g12) rfl (show S0[161]? = some (100, 19, List.replicate 19 none) from rfl) (by decide) hi16 (by rw [hg12] <;> rfl) ?_
        refine ev_rn (n := 6) (i2 := 64) (L2 := [some (.ref 157), some (.int v1), some (.int v2), some (.int q10.1)]) (st2 := [.int v1, .int ((7 : Int32) + v2), .ref 161]) (g2 := g12) cdE_49 rfl ?_
        by_cases hi15 : inb ((7 : Int32) + v2) 19
        · rw [if_pos hi15] at h
          refine bd_elim h (fun g13 hg13 h => ?_)
          refine ev_iastore (g2 := g13) rfl (show S0[161]? = some (100, 19, List.replicate 19 none) from rfl) (by decide) hi15 (by rw [hg13] <;> rfl) ?_
          refine ev_rn (n := 4) (i2 := 69) (L2 := [some (.ref 157), some (.int v1), some (.int v2), some (.int q10.1)]) (st2 := [.int (1 : Int32), .ref 161, .int (1 : Int32), .ref 161]) (g2 := g13) cdE_49 rfl ?_
          refine ev_iaload (v := .int (g13.1 161 1)) rfl (kd_of (show S0[161]? = some (100, 19, List.replicate 19 none) from rfl)) (by decide) ⟨by decide, by decide⟩ rfl ?_
          refine ev_rn (n := 2) (i2 := 72) (L2 := [some (.ref 157), some (.int v1), some (.int v2), some (.int q10.1)]) (st2 := [.int ((g13.1 161 1) + (1 : Int32)), .int (1 : Int32), .ref 161]) (g2 := g13) cdE_49 rfl ?_
          refine bd_elim h (fun g14 hg14 h => ?_)
          refine ev_iastore (g2 := g14) rfl (show S0[161]? = some (100, 19, List.replicate 19 none) from rfl) (by decide) ⟨by decide, by decide⟩ (by rw [hg14] <;> rfl) ?_
          cases h
          exact ev_ret rfl rfl
        · rw [if_neg hi15] at h
          cases h
      · rw [if_neg hi16] at h
        cases h
  exact ev_wk (L := [some (.ref 157), some (.int v1), some (.int v2), some (.int (0 : Int32))]) (lp_ind (P := (fun (s : (Int32 × M2)) => Ev Lx 49 cd_49 18 [some (.ref 157), some (.int v1), some (.int v2), some (.int s.1)] [] s.2 (none, b))) (fun s s2 hs hP => tb_Mo_readElement_18 v1 v2  s.1 s.2 (b := .inl s2) hs hP) (fun s hs => tb_Mo_readElement_18 v1 v2  s.1 s.2 (b := .inr e9) hs hX17) _ _ he9) ⟨rfl, ⟨rfl, ⟨rfl, ⟨rfl, trivial⟩⟩⟩⟩
def j_Mo_readElement_11 (v1 : Int32) (v2 : Int32) (g : M2) : Option (M2) := (if (f_Mo_good g) = 0 then (j_Mo_readElement_16 v1 v2 g) else ((f_Mo_advance g).bind fun q18 => (j_Mo_readElement_16 v1 v2 q18)))
theorem tj_Mo_readElement_11 {Lx : Nat}  (v1 : Int32) (v2 : Int32)  (g : M2) {b : M2} (h : j_Mo_readElement_11 v1 v2 g = some b) : Ev Lx 49 cd_49 11 [some (.ref 157), some (.int v1), some (.int v2)] [] g (none, b) := by
  unfold j_Mo_readElement_11 at h
  refine ev_rn (n := 1) (i2 := 12) (L2 := [some (.ref 157), some (.int v1), some (.int v2)]) (st2 := [.ref 157]) (g2 := g) cdE_49 rfl ?_
  refine ev_call rfl cdE_44 rfl rfl rfl (e_Mo_good   g rfl) ?_
  by_cases hc2 : (f_Mo_good g) = 0
  · rw [if_pos hc2] at h
    refine ev_zft cdE_49 rfl (cn_t hc2) ?_
    exact ev_wk (L := [some (.ref 157), some (.int v1), some (.int v2)]) (tj_Mo_readElement_16  v1 v2  g h) ⟨rfl, ⟨rfl, ⟨rfl, trivial⟩⟩⟩
  · rw [if_neg hc2] at h
    refine ev_zff rfl (cn_f hc2) ?_
    refine ev_rn (n := 1) (i2 := 15) (L2 := [some (.ref 157), some (.int v1), some (.int v2)]) (st2 := [.ref 157]) (g2 := g) cdE_49 rfl ?_
    obtain ⟨q18, hq18, h⟩ := Option.bind_eq_some_iff.mp h
    refine ev_call rfl cdE_43 rfl rfl rfl (e_Mo_advance   g hq18) ?_
    exact ev_wk (L := [some (.ref 157), some (.int v1), some (.int v2)]) (tj_Mo_readElement_16  v1 v2  q18 h) ⟨rfl, ⟨rfl, ⟨rfl, trivial⟩⟩⟩
def f_Mo_readElement (p0 : Int32) (g : M2) : Option (M2) := (if (g.1 161 1) = (5 : Int32) then ((f_Mo_errs (3 : Int32) g).bind fun q19 => (j_Mo_readElement_11 p0 (g.1 161 1) q19)) else (j_Mo_readElement_11 p0 (g.1 161 1) g))
theorem e_Mo_readElement {Lx : Nat} (p0 : Int32)  (g : M2) {b : M2} (h : f_Mo_readElement p0 g = some b) : Ev Lx 49 cd_49 0 [some (.ref 157), some (.int p0)] [] g (none, b) := by
  unfold f_Mo_readElement at h
  refine ev_rn (n := 3) (i2 := 3) (L2 := [some (.ref 157), some (.int p0)]) (st2 := [.int (1 : Int32), .ref 161]) (g2 := g) cdE_49 rfl ?_
  refine ev_iaload (v := .int (g.1 161 1)) rfl (kd_of (show S0[161]? = some (100, 19, List.replicate 19 none) from rfl)) (by decide) ⟨by decide, by decide⟩ rfl ?_
  refine ev_rn (n := 3) (i2 := 7) (L2 := [some (.ref 157), some (.int p0), some (.int (g.1 161 1))]) (st2 := [.int (5 : Int32), .int (g.1 161 1)]) (g2 := g) cdE_49 rfl ?_
  by_cases hc1 : (g.1 161 1) = (5 : Int32)
  · rw [if_pos hc1] at h
    refine ev_iff rfl (cn_f (fun q => q hc1)) ?_
    refine ev_rn (n := 2) (i2 := 10) (L2 := [some (.ref 157), some (.int p0), some (.int (g.1 161 1))]) (st2 := [.int (3 : Int32), .ref 157]) (g2 := g) cdE_49 rfl ?_
    obtain ⟨q19, hq19, h⟩ := Option.bind_eq_some_iff.mp h
    refine ev_call rfl cdE_46 rfl rfl rfl (e_Mo_errs (3 : Int32)  g hq19) ?_
    exact ev_wk (L := [some (.ref 157), some (.int p0), some (.int (g.1 161 1))]) (tj_Mo_readElement_11  p0 (g.1 161 1)  q19 h) ⟨rfl, ⟨rfl, ⟨rfl, trivial⟩⟩⟩
  · rw [if_neg hc1] at h
    refine ev_ift cdE_49 rfl (cn_t hc1) ?_
    exact ev_wk (L := [some (.ref 157), some (.int p0), some (.int (g.1 161 1))]) (tj_Mo_readElement_11  p0 (g.1 161 1)  g h) ⟨rfl, ⟨rfl, ⟨rfl, trivial⟩⟩⟩
def b_Mo_wasTold_13  (v1 : Int32) (g : M2) : Option (Int32 ⊕ (Unit ⊕ Int32)) := (if (g.1 161 13) ≤ v1 then some (.inr (.inl ())) else (if inb ((14 : Int32) + v1) 19 then (if (g.1 161 ((14 : Int32) + v1).toNatClampNeg) = (g.1 157 27) then some (.inr (.inr (1 : Int32))) else some (.inl (v1 + (1 : Int32)))) else none))
theorem tb_Mo_wasTold_13 {Lx : Nat}   (v1 : Int32) (g : M2) {b : Int32 ⊕ (Unit ⊕ Int32)} {o : Option Value × M2} (h : b_Mo_wasTold_13 v1 g = some b) (hb : Sum.elim (fun s => Ev Lx 50 cd_50 13 [some (.ref 157), some (.int s)] [] g o) (Sum.elim (fun e => Ev Lx 50 cd_50 32 [] [] g o) (fun r => o = (some (.int r), g))) b) : Ev Lx 50 cd_50 13 [some (.ref 157), some (.int v1)] [] g o := by
  unfold b_Mo_wasTold_13 at h
  refine ev_rn (n := 4) (i2 := 17) (L2 := [some (.ref 157), some (.int v1)]) (st2 := [.int (13 : Int32), .ref 161, .int v1]) (g2 := g) cdE_50 rfl ?_
  refine ev_iaload (v := .int (g.1 161 13)) rfl (kd_of (show S0[161]? = some (100, 19, List.replicate 19 none) from rfl)) (by decide) ⟨by decide, by decide⟩ rfl ?_
  by_cases hc2 : (g.1 161 13) ≤ v1
  · rw [if_pos hc2] at h
    refine ev_ift cdE_50 rfl (cn_t hc2) ?_
    cases h
    exact ev_wk (L := []) hb trivial
  · rw [if_neg hc2] at h
    refine ev_iff rfl (cn_f hc2) ?_
    refine ev_rn (n := 5) (i2 := 24) (L2 := [some (.ref 157), some (.int v1)]) (st2 := [.int ((14 : Int32) + v1), .ref 161]) (g2 := g) cdE_50 rfl ?_
    by_cases hi3 : inb ((14 : Int32) + v1) 19
    · rw [if_pos hi3] at h
      refine ev_iaload (v := .int (g.1 161 ((14 : Int32) + v1).toNatClampNeg)) rfl (kd_of (show S0[161]? = some (100, 19, List.replicate 19 none) from rfl)) (by decide) hi3 rfl ?_
      refine ev_rn (n := 2) (i2 := 27) (L2 := [some (.ref 157), some (.int v1)]) (st2 := [.int (g.1 157 27), .int (g.1 161 ((14 : Int32) + v1).toNatClampNeg)]) (g2 := g) cdE_50 rfl ?_
      by_cases hc4 : (g.1 161 ((14 : Int32) + v1).toNatClampNeg) = (g.1 157 27)
      · rw [if_pos hc4] at h
        refine ev_iff rfl (cn_f (fun q => q hc4)) ?_
        refine ev_rn (n := 1) (i2 := 29) (L2 := [some (.ref 157), some (.int v1)]) (st2 := [.int (1 : Int32)]) (g2 := g) cdE_50 rfl ?_
        cases h
        cases hb
        exact ev_ret rfl rt_1
      · rw [if_neg hc4] at h
        refine ev_ift cdE_50 rfl (cn_t hc4) ?_
        refine ev_rn (n := 2) (i2 := 13) (L2 := [some (.ref 157), some (.int (v1 + (1 : Int32)))]) (st2 := []) (g2 := g) cdE_50 rfl ?_
        cases h
        exact ev_wk (L := [some (.ref 157), some (.int (v1 + (1 : Int32)))]) hb ⟨rfl, ⟨rfl, trivial⟩⟩
    · rw [if_neg hi3] at h
      cases h
def f_Mo_wasTold  (g : M2) : Option (Int32) := (if (g.1 161 12) = ((g.1 157 27) + (1 : Int32)) then some (1 : Int32) else ((lp (fun s => b_Mo_wasTold_13  s g) 5000 (0 : Int32)).bind fun ue5 => Sum.elim (fun e5 => some (0 : Int32)) (fun re5 => some re5) ue5))
theorem e_Mo_wasTold {Lx : Nat}   (g : M2) {b : Int32} (h : f_Mo_wasTold  g = some b) : Ev Lx 50 cd_50 0 [some (.ref 157)] [] g (some (.int b), g) := by
  unfold f_Mo_wasTold at h
  refine ev_rn (n := 3) (i2 := 3) (L2 := [some (.ref 157)]) (st2 := [.int (12 : Int32), .ref 161]) (g2 := g) cdE_50 rfl ?_
  refine ev_iaload (v := .int (g.1 161 12)) rfl (kd_of (show S0[161]? = some (100, 19, List.replicate 19 none) from rfl)) (by decide) ⟨by decide, by decide⟩ rfl ?_
  refine ev_rn (n := 4) (i2 := 8) (L2 := [some (.ref 157)]) (st2 := [.int ((g.1 157 27) + (1 : Int32)), .int (g.1 161 12)]) (g2 := g) cdE_50 rfl ?_
  by_cases hc1 : (g.1 161 12) = ((g.1 157 27) + (1 : Int32))
  · rw [if_pos hc1] at h
    refine ev_iff rfl (cn_f (fun q => q hc1)) ?_
    refine ev_rn (n := 1) (i2 := 10) (L2 := [some (.ref 157)]) (st2 := [.int (1 : Int32)]) (g2 := g) cdE_50 rfl ?_
    cases h
    exact ev_ret rfl rt_1
  · rw [if_neg hc1] at h
    refine ev_ift cdE_50 rfl (cn_t hc1) ?_
    refine ev_rn (n := 2) (i2 := 13) (L2 := [some (.ref 157), some (.int (0 : Int32))]) (st2 := []) (g2 := g) cdE_50 rfl ?_
    obtain ⟨ue5, he5, h⟩ := Option.bind_eq_some_iff.mp h
    cases ue5 with
    | inl e5 =>
      replace h := h
      have hX6 : Ev Lx 50 cd_50 32 [] [] g (some (.int b), g) := by
        simp only [Sum.elim_inl] at h
        refine ev_rn (n := 1) (i2 := 33) (L2 := []) (st2 := [.int (0 : Int32)]) (g2 := g) cdE_50 rfl ?_
        cases h
        exact ev_ret rfl rt_0
      exact ev_wk (L := [some (.ref 157), some (.int (0 : Int32))]) (lp_ind (P := (fun (s : Int32) => Ev Lx 50 cd_50 13 [some (.ref 157), some (.int s)] [] g (some (.int b), g))) (fun s s2 hs hP => tb_Mo_wasTold_13   s g (b := .inl s2) hs hP) (fun s hs => tb_Mo_wasTold_13   s g (b := .inr (.inl e5)) hs hX6) _ _ he5) ⟨rfl, ⟨rfl, trivial⟩⟩
    | inr re5 =>
      simp only [Sum.elim_inr] at h
      cases h
      exact ev_wk (L := [some (.ref 157), some (.int (0 : Int32))]) (lp_ind (P := (fun (s : Int32) => Ev Lx 50 cd_50 13 [some (.ref 157), some (.int s)] [] g (some (.int b), g))) (fun s s2 hs hP => tb_Mo_wasTold_13   s g (b := .inl s2) hs hP) (fun s hs => tb_Mo_wasTold_13   s g (b := .inr (.inr b)) hs rfl) _ _ he5) ⟨rfl, ⟨rfl, trivial⟩⟩
def j_Mo_readDirection_35 (v1 : Int32) (g : M2) : Option (M2) := ((f_Mo_takes (0 : Int32) (11 : Int32) g).bind fun q5 => (if (f_Mo_good q5.2) = 0 then some q5.2 else (if v1 = 0 then (if inb ((14 : Int32) + (q5.2.1 161 13)) 19 then (bd (uI q5.2 161 ((14 : Int32) + (q5.2.1 161 13)).toNatClampNeg q5.1) fun g8 => (bd (uI g8 161 13 ((g8.1 161 13) + (1 : Int32))) fun g9 => some g9)) else none) else (bd (uI q5.2 161 12 (q5.1 + (1 : Int32))) fun g11 => some g11))))
theorem tj_Mo_readDirection_35 {Lx : Nat}  (v1 : Int32)  (g : M2) {b : M2} (h : j_Mo_readDirection_35 v1 g = some b) : Ev Lx 51 cd_51 35 [some (.ref 157), some (.int v1)] [] g (none, b) := by
  unfold j_Mo_readDirection_35 at h
  refine ev_rn (n := 3) (i2 := 38) (L2 := [some (.ref 157), some (.int v1)]) (st2 := [.int (11 : Int32), .int (0 : Int32), .ref 157]) (g2 := g) cdE_51 rfl ?_
  obtain ⟨q5, hq5, h⟩ := Option.bind_eq_some_iff.mp h
  refine ev_call rfl cdE_48 rfl rfl rfl (e_Mo_takes (0 : Int32) (11 : Int32)  g hq5) ?_
  refine ev_rn (n := 2) (i2 := 41) (L2 := [some (.ref 157), some (.int v1), some (.int q5.1)]) (st2 := [.ref 157]) (g2 := q5.2) cdE_51 rfl ?_
  refine ev_call rfl cdE_44 rfl rfl rfl (e_Mo_good   q5.2 rfl) ?_
  by_cases hc6 : (f_Mo_good q5.2) = 0
  · rw [if_pos hc6] at h
    refine ev_zff rfl (cn_f (fun q => q hc6)) ?_
    cases h
    exact ev_ret rfl rfl
  · rw [if_neg hc6] at h
    refine ev_zft cdE_51 rfl (cn_t hc6) ?_
    refine ev_rn (n := 1) (i2 := 45) (L2 := [some (.ref 157), some (.int v1), some (.int q5.1)]) (st2 := [.int v1]) (g2 := q5.2) cdE_51 rfl ?_
    by_cases hc7 : v1 = 0
    · rw [if_pos hc7] at h
      refine ev_zft cdE_51 rfl (cn_t hc7) ?_
      refine ev_rn (n := 6) (i2 := 60) (L2 := [some (.ref 157), some (.int v1), some (.int q5.1)]) (st2 := [.int (13 : Int32), .ref 161, .int (14 : Int32), .ref 161]) (g2 := q5.2) cdE_51 rfl ?_
      refine ev_iaload (v := .int (q5.2.1 161 13)) rfl (kd_of (show S0[161]? = some (100, 19, List.replicate 19 none) from rfl)) (by decide) ⟨by decide, by decide⟩ rfl ?_
      refine ev_rn (n := 2) (i2 := 63) (L2 := [some (.ref 157), some (.int v1), some (.int q5.1)]) (st2 := [.int q5.1, .int ((14 : Int32) + (q5.2.1 161 13)), .ref 161]) (g2 := q5.2) cdE_51 rfl ?_
      by_cases hi10 : inb ((14 : Int32) + (q5.2.1 161 13)) 19
      · rw [if_pos hi10] at h
        refine bd_elim h (fun g8 hg8 h => ?_)
        refine ev_iastore (g2 := g8) rfl (show S0[161]? = some (100, 19, List.replicate 19 none) from rfl) (by decide) hi10 (by rw [hg8] <;> rfl) ?_
        refine ev_rn (n := 4) (i2 := 68) (L2 := [some (.ref 157), some (.int v1), some (.int q5.1)]) (st2 := [.int (13 : Int32), .ref 161, .int (13 : Int32), .ref 161]) (g2 := g8) cdE_51 rfl ?_
        refine ev_iaload (v := .int (g8.1 161 13)) rfl (kd_of (show S0[161]? = some (100, 19, List.replicate 19 none) from rfl)) (by decide) ⟨by decide, by decide⟩ rfl ?_
        refine ev_rn (n := 2) (i2 := 71) (L2 := [some (.ref 157), some (.int v1), some (.int q5.1)]) (st2 := [.int ((g8.1 161 13) + (1 : Int32)), .int (13 : Int32), .ref 161]) (g2 := g8) cdE_51 rfl ?_
        refine bd_elim h (fun g9 hg9 h => ?_)
        refine ev_iastore (g2 := g9) rfl (show S0[161]? = some (100, 19, List.replicate 19 none) from rfl) (by decide) ⟨by decide, by decide⟩ (by rw [hg9] <;> rfl) ?_
        cases h
        exact ev_ret rfl rfl
      · rw [if_neg hi10] at h
        cases h
    · rw [if_neg hc7] at h
      refine ev_zff rfl (cn_f hc7) ?_
      refine ev_rn (n := 6) (i2 := 52) (L2 := [some (.ref 157), some (.int v1), some (.int q5.1)]) (st2 := [.int (q5.1 + (1 : Int32)), .int (12 : Int32), .ref 161]) (g2 := q5.2) cdE_51 rfl ?_
      refine bd_elim h (fun g11 hg11 h => ?_)
      refine ev_iastore (g2 := g11) rfl (show S0[161]? = some (100, 19, List.replicate 19 none) from rfl) (by decide) ⟨by decide, by decide⟩ (by rw [hg11] <;> rfl) ?_
      refine ev_rn (n := 1) (i2 := 72) (L2 := [some (.ref 157), some (.int v1), some (.int q5.1)]) (st2 := []) (g2 := g11) cdE_51 rfl ?_
      cases h
      exact ev_ret rfl rfl
def j_Mo_readDirection_22 (v1 : Int32) (g : M2) : Option (M2) := (if (f_Mo_good g) = 0 then (j_Mo_readDirection_35 v1 g) else (if (g.1 157 26) = (2 : Int32) then ((f_Mo_wasTold g).bind fun q13 => (if q13 = 0 then (j_Mo_readDirection_35 v1 g) else ((f_Mo_errs (2 : Int32) g).bind fun q15 => (j_Mo_readDirection_35 v1 q15)))) else (j_Mo_readDirection_35 v1 g)))
theorem tj_Mo_readDirection_22 {Lx : Nat}  (v1 : Int32)  (g : M2) {b : M2} (h : j_Mo_readDirection_22 v1 g = some b) : Ev Lx 51 cd_51 22 [some (.ref 157), some (.int v1)] [] g (none, b) := by
  unfold j_Mo_readDirection_22 at h
  refine ev_rn (n := 1) (i2 := 23) (L2 := [some (.ref 157), some (.int v1)]) (st2 := [.ref 157]) (g2 := g) cdE_51 rfl ?_
  refine ev_call rfl cdE_44 rfl rfl rfl (e_Mo_good   g rfl) ?_
  by_cases hc4 : (f_Mo_good g) = 0
  · rw [if_pos hc4] at h
    refine ev_zft cdE_51 rfl (cn_t hc4) ?_
    exact ev_wk (L := [some (.ref 157), some (.int v1)]) (tj_Mo_readDirection_35  v1  g h) ⟨rfl, ⟨rfl, trivial⟩⟩
  · rw [if_neg hc4] at h
    refine ev_zff rfl (cn_f hc4) ?_
    refine ev_rn (n := 3) (i2 := 28) (L2 := [some (.ref 157), some (.int v1)]) (st2 := [.int (2 : Int32), .int (g.1 157 26)]) (g2 := g) cdE_51 rfl ?_
    by_cases hc12 : (g.1 157 26) = (2 : Int32)
    · rw [if_pos hc12] at h
      refine ev_iff rfl (cn_f (fun q => q hc12)) ?_
      refine ev_rn (n := 1) (i2 := 30) (L2 := [some (.ref 157), some (.int v1)]) (st2 := [.ref 157]) (g2 := g) cdE_51 rfl ?_
      obtain ⟨q13, hq13, h⟩ := Option.bind_eq_some_iff.mp h
      refine ev_call rfl cdE_50 rfl rfl rfl (e_Mo_wasTold   g hq13) ?_
      by_cases hc14 : q13 = 0
      · rw [if_pos hc14] at h
        refine ev_zft cdE_51 rfl (cn_t hc14) ?_
        exact ev_wk (L := [some (.ref 157), some (.int v1)]) (tj_Mo_readDirection_35  v1  g h) ⟨rfl, ⟨rfl, trivial⟩⟩
      · rw [if_neg hc14] at h
        refine ev_zff rfl (cn_f hc14) ?_
        refine ev_rn (n := 2) (i2 := 34) (L2 := [some (.ref 157), some (.int v1)]) (st2 := [.int (2 : Int32), .ref 157]) (g2 := g) cdE_51 rfl ?_
        obtain ⟨q15, hq15, h⟩ := Option.bind_eq_some_iff.mp h
        refine ev_call rfl cdE_46 rfl rfl rfl (e_Mo_errs (2 : Int32)  g hq15) ?_
        exact ev_wk (L := [some (.ref 157), some (.int v1)]) (tj_Mo_readDirection_35  v1  q15 h) ⟨rfl, ⟨rfl, trivial⟩⟩
    · rw [if_neg hc12] at h
      refine ev_ift cdE_51 rfl (cn_t hc12) ?_
      exact ev_wk (L := [some (.ref 157), some (.int v1)]) (tj_Mo_readDirection_35  v1  g h) ⟨rfl, ⟨rfl, trivial⟩⟩
def j_Mo_readDirection_17 (v1 : Int32) (g : M2) : Option (M2) := (if (f_Mo_good g) = 0 then (j_Mo_readDirection_22 v1 g) else ((f_Mo_advance g).bind fun q16 => (j_Mo_readDirection_22 v1 q16)))
theorem tj_Mo_readDirection_17 {Lx : Nat}  (v1 : Int32)  (g : M2) {b : M2} (h : j_Mo_readDirection_17 v1 g = some b) : Ev Lx 51 cd_51 17 [some (.ref 157), some (.int v1)] [] g (none, b) := by
  unfold j_Mo_readDirection_17 at h
  refine ev_rn (n := 1) (i2 := 18) (L2 := [some (.ref 157), some (.int v1)]) (st2 := [.ref 157]) (g2 := g) cdE_51 rfl ?_
  refine ev_call rfl cdE_44 rfl rfl rfl (e_Mo_good   g rfl) ?_
  by_cases hc3 : (f_Mo_good g) = 0
  · rw [if_pos hc3] at h
    refine ev_zft cdE_51 rfl (cn_t hc3) ?_
    exact ev_wk (L := [some (.ref 157), some (.int v1)]) (tj_Mo_readDirection_22  v1  g h) ⟨rfl, ⟨rfl, trivial⟩⟩
  · rw [if_neg hc3] at h
    refine ev_zff rfl (cn_f hc3) ?_
    refine ev_rn (n := 1) (i2 := 21) (L2 := [some (.ref 157), some (.int v1)]) (st2 := [.ref 157]) (g2 := g) cdE_51 rfl ?_
    obtain ⟨q16, hq16, h⟩ := Option.bind_eq_some_iff.mp h
    refine ev_call rfl cdE_43 rfl rfl rfl (e_Mo_advance   g hq16) ?_
    exact ev_wk (L := [some (.ref 157), some (.int v1)]) (tj_Mo_readDirection_22  v1  q16 h) ⟨rfl, ⟨rfl, trivial⟩⟩
def j_Mo_readDirection_14 (v1 : Int32) (g : M2) : Option (M2) := ((f_Mo_errs (3 : Int32) g).bind fun q17 => (j_Mo_readDirection_17 v1 q17))
theorem tj_Mo_readDirection_14 {Lx : Nat}  (v1 : Int32)  (g : M2) {b : M2} (h : j_Mo_readDirection_14 v1 g = some b) : Ev Lx 51 cd_51 14 [some (.ref 157), some (.int v1)] [] g (none, b) := by
  unfold j_Mo_readDirection_14 at h
  refine ev_rn (n := 2) (i2 := 16) (L2 := [some (.ref 157), some (.int v1)]) (st2 := [.int (3 : Int32), .ref 157]) (g2 := g) cdE_51 rfl ?_
  obtain ⟨q17, hq17, h⟩ := Option.bind_eq_some_iff.mp h
  refine ev_call rfl cdE_46 rfl rfl rfl (e_Mo_errs (3 : Int32)  g hq17) ?_
  exact ev_wk (L := [some (.ref 157), some (.int v1)]) (tj_Mo_readDirection_17  v1  q17 h) ⟨rfl, ⟨rfl, trivial⟩⟩
def f_Mo_readDirection (p0 : Int32) (g : M2) : Option (M2) := (if p0 = 0 then (if (g.1 161 13) = (4 : Int32) then (j_Mo_readDirection_14 p0 g) else (j_Mo_readDirection_17 p0 g)) else (if (g.1 161 12) ≤ 0 then (j_Mo_readDirection_17 p0 g) else (j_Mo_readDirection_14 p0 g)))
theorem e_Mo_readDirection {Lx : Nat} (p0 : Int32)  (g : M2) {b : M2} (h : f_Mo_readDirection p0 g = some b) : Ev Lx 51 cd_51 0 [some (.ref 157), some (.int p0)] [] g (none, b) := by
  unfold f_Mo_readDirection at h
  refine ev_rn (n := 1) (i2 := 1) (L2 := [some (.ref 157), some (.int p0)]) (st2 := [.int p0]) (g2 := g) cdE_51 rfl ?_
  by_cases hc1 : p0 = 0
  · rw [if_pos hc1] at h
    refine ev_zft cdE_51 rfl (cn_t hc1) ?_
    refine ev_rn (n := 3) (i2 := 11) (L2 := [some (.ref 157), some (.int p0)]) (st2 := [.int (13 : Int32), .ref 161]) (g2 := g) cdE_51 rfl ?_
    refine ev_iaload (v := .int (g.1 161 13)) rfl (kd_of (show S0[161]? = some (100, 19, List.replicate 19 none) from rfl)) (by decide) ⟨by decide, by decide⟩ rfl ?_
    refine ev_rn (n := 1) (i2 := 13) (L2 := [some (.ref 157), some (.int p0)]) (st2 := [.int (4 : Int32), .int (g.1 161 13)]) (g2 := g) cdE_51 rfl ?_
    by_cases hc2 : (g.1 161 13) = (4 : Int32)
    · rw [if_pos hc2] at h
      refine ev_iff rfl (cn_f (fun q => q hc2)) ?_
      exact ev_wk (L := [some (.ref 157), some (.int p0)]) (tj_Mo_readDirection_14  p0  g h) ⟨rfl, ⟨rfl, trivial⟩⟩
    · rw [if_neg hc2] at h
      refine ev_ift cdE_51 rfl (cn_t hc2) ?_
      exact ev_wk (L := [some (.ref 157), some (.int p0)]) (tj_Mo_readDirection_17  p0  g h) ⟨rfl, ⟨rfl, trivial⟩⟩
  · rw [if_neg hc1] at h
    refine ev_zff rfl (cn_f hc1) ?_
    refine ev_rn (n := 3) (i2 := 5) (L2 := [some (.ref 157), some (.int p0)]) (st2 := [.int (12 : Int32), .ref 161]) (g2 := g) cdE_51 rfl ?_
    refine ev_iaload (v := .int (g.1 161 12)) rfl (kd_of (show S0[161]? = some (100, 19, List.replicate 19 none) from rfl)) (by decide) ⟨by decide, by decide⟩ rfl ?_
    by_cases hc18 : (g.1 161 12) ≤ 0
    · rw [if_pos hc18] at h
      refine ev_zft cdE_51 rfl (cn_t hc18) ?_
      exact ev_wk (L := [some (.ref 157), some (.int p0)]) (tj_Mo_readDirection_17  p0  g h) ⟨rfl, ⟨rfl, trivial⟩⟩
    · rw [if_neg hc18] at h
      refine ev_zff rfl (cn_f hc18) ?_
      refine ev_rn (n := 1) (i2 := 14) (L2 := [some (.ref 157), some (.int p0)]) (st2 := []) (g2 := g) cdE_51 rfl ?_
      exact ev_wk (L := [some (.ref 157), some (.int p0)]) (tj_Mo_readDirection_14  p0  g h) ⟨rfl, ⟨rfl, trivial⟩⟩
def j_Mo_readLine_65  (g : M2) : Option (M2) := (if (f_Mo_good g) = 0 then (bd (uI g 161 18 ((g.1 161 18) + (1 : Int32))) fun g13 => some g13) else ((f_Mo_advance g).bind fun q14 => (bd (uI q14 161 18 ((q14.1 161 18) + (1 : Int32))) fun g15 => some g15)))
theorem tj_Mo_readLine_65 {Lx : Nat}    (g : M2) {b : M2} (h : j_Mo_readLine_65  g = some b) : Ev Lx 52 cd_52 65 [some (.ref 157)] [] g (none, b) := by
  unfold j_Mo_readLine_65 at h
  refine ev_rn (n := 1) (i2 := 66) (L2 := [some (.ref 157)]) (st2 := [.ref 157]) (g2 := g) cdE_52 rfl ?_
  refine ev_call rfl cdE_44 rfl rfl rfl (e_Mo_good   g rfl) ?_
  by_cases hc12 : (f_Mo_good g) = 0
  · rw [if_pos hc12] at h
    refine ev_zft cdE_52 rfl (cn_t hc12) ?_
    refine ev_rn (n := 4) (i2 := 74) (L2 := [some (.ref 157)]) (st2 := [.int (18 : Int32), .ref 161, .int (18 : Int32), .ref 161]) (g2 := g) cdE_52 rfl ?_
    refine ev_iaload (v := .int (g.1 161 18)) rfl (kd_of (show S0[161]? = some (100, 19, List.replicate 19 none) from rfl)) (by decide) ⟨by decide, by decide⟩ rfl ?_
    refine ev_rn (n := 2) (i2 := 77) (L2 := [some (.ref 157)]) (st2 := [.int ((g.1 161 18) + (1 : Int32)), .int (18 : Int32), .ref 161]) (g2 := g) cdE_52 rfl ?_
    refine bd_elim h (fun g13 hg13 h => ?_)
    refine ev_iastore (g2 := g13) rfl (show S0[161]? = some (100, 19, List.replicate 19 none) from rfl) (by decide) ⟨by decide, by decide⟩ (by rw [hg13] <;> rfl) ?_
    cases h
    exact ev_ret rfl rfl
  · rw [if_neg hc12] at h
    refine ev_zff rfl (cn_f hc12) ?_
    refine ev_rn (n := 1) (i2 := 69) (L2 := [some (.ref 157)]) (st2 := [.ref 157]) (g2 := g) cdE_52 rfl ?_
    obtain ⟨q14, hq14, h⟩ := Option.bind_eq_some_iff.mp h
    refine ev_call rfl cdE_43 rfl rfl rfl (e_Mo_advance   g hq14) ?_
    refine ev_rn (n := 4) (i2 := 74) (L2 := [some (.ref 157)]) (st2 := [.int (18 : Int32), .ref 161, .int (18 : Int32), .ref 161]) (g2 := q14) cdE_52 rfl ?_
    refine ev_iaload (v := .int (q14.1 161 18)) rfl (kd_of (show S0[161]? = some (100, 19, List.replicate 19 none) from rfl)) (by decide) ⟨by decide, by decide⟩ rfl ?_
    refine ev_rn (n := 2) (i2 := 77) (L2 := [some (.ref 157)]) (st2 := [.int ((q14.1 161 18) + (1 : Int32)), .int (18 : Int32), .ref 161]) (g2 := q14) cdE_52 rfl ?_
    refine bd_elim h (fun g15 hg15 h => ?_)
    refine ev_iastore (g2 := g15) rfl (show S0[161]? = some (100, 19, List.replicate 19 none) from rfl) (by decide) ⟨by decide, by decide⟩ (by rw [hg15] <;> rfl) ?_
    cases h
    exact ev_ret rfl rfl
def j_Mo_readLine_55  (g : M2) : Option (M2) := (if (f_Mo_good g) = 0 then (j_Mo_readLine_65  g) else (if (g.1 157 26) = (3 : Int32) then (j_Mo_readLine_65  g) else ((f_Mo_errs (1 : Int32) g).bind fun q17 => (j_Mo_readLine_65  q17))))
theorem tj_Mo_readLine_55 {Lx : Nat}    (g : M2) {b : M2} (h : j_Mo_readLine_55  g = some b) : Ev Lx 52 cd_52 55 [some (.ref 157)] [] g (none, b) := by
  unfold j_Mo_readLine_55 at h
  refine ev_rn (n := 1) (i2 := 56) (L2 := [some (.ref 157)]) (st2 := [.ref 157]) (g2 := g) cdE_52 rfl ?_
  refine ev_call rfl cdE_44 rfl rfl rfl (e_Mo_good   g rfl) ?_
  by_cases hc11 : (f_Mo_good g) = 0
  · rw [if_pos hc11] at h
    refine ev_zft cdE_52 rfl (cn_t hc11) ?_
    exact ev_wk (L := [some (.ref 157)]) (tj_Mo_readLine_65    g h) ⟨rfl, trivial⟩
  · rw [if_neg hc11] at h
    refine ev_zff rfl (cn_f hc11) ?_
    refine ev_rn (n := 3) (i2 := 61) (L2 := [some (.ref 157)]) (st2 := [.int (3 : Int32), .int (g.1 157 26)]) (g2 := g) cdE_52 rfl ?_
    by_cases hc16 : (g.1 157 26) = (3 : Int32)
    · rw [if_pos hc16] at h
      refine ev_ift cdE_52 rfl (cn_t hc16) ?_
      exact ev_wk (L := [some (.ref 157)]) (tj_Mo_readLine_65    g h) ⟨rfl, trivial⟩
    · rw [if_neg hc16] at h
      refine ev_iff rfl (cn_f hc16) ?_
      refine ev_rn (n := 2) (i2 := 64) (L2 := [some (.ref 157)]) (st2 := [.int (1 : Int32), .ref 157]) (g2 := g) cdE_52 rfl ?_
      obtain ⟨q17, hq17, h⟩ := Option.bind_eq_some_iff.mp h
      refine ev_call rfl cdE_46 rfl rfl rfl (e_Mo_errs (1 : Int32)  g hq17) ?_
      exact ev_wk (L := [some (.ref 157)]) (tj_Mo_readLine_65    q17 h) ⟨rfl, trivial⟩
def f_Mo_readLine  (g : M2) : Option (M2) := (if (g.1 161 18) = 0 then ((f_Mo_expects 1003 g).bind fun q22 => ((f_Mo_expects 1004 q22).bind fun q23 => ((f_Mo_takes (1 : Int32) (99 : Int32) q23).bind fun q24 => (bd (uI q24.2 161 0 q24.1) fun g25 => (j_Mo_readLine_55  g25))))) else ((f_Mo_is 1005 g).bind fun q2 => (if q2 = 0 then ((f_Mo_is 1006 g).bind fun q4 => (if q4 = 0 then ((f_Mo_is 1007 g).bind fun q6 => (if q6 = 0 then ((f_Mo_is 1008 g).bind fun q8 => (if q8 = 0 then ((f_Mo_errs (1 : Int32) g).bind fun q10 => (j_Mo_readLine_55  q10)) else ((f_Mo_readDirection (0 : Int32) g).bind fun q18 => (j_Mo_readLine_55  q18)))) else ((f_Mo_readDirection (1 : Int32) g).bind fun q19 => (j_Mo_readLine_55  q19)))) else ((f_Mo_readElement (1 : Int32) g).bind fun q20 => (j_Mo_readLine_55  q20)))) else ((f_Mo_readElement (0 : Int32) g).bind fun q21 => (j_Mo_readLine_55  q21)))))
theorem e_Mo_readLine {Lx : Nat}   (g : M2) {b : M2} (h : f_Mo_readLine  g = some b) : Ev Lx 52 cd_52 0 [some (.ref 157)] [] g (none, b) := by
  unfold f_Mo_readLine at h
  refine ev_rn (n := 3) (i2 := 3) (L2 := [some (.ref 157)]) (st2 := [.int (18 : Int32), .ref 161]) (g2 := g) cdE_52 rfl ?_
  refine ev_iaload (v := .int (g.1 161 18)) rfl (kd_of (show S0[161]? = some (100, 19, List.replicate 19 none) from rfl)) (by decide) ⟨by decide, by decide⟩ rfl ?_
  by_cases hc1 : (g.1 161 18) = 0
  · rw [if_pos hc1] at h
    refine ev_zff rfl (cn_f (fun q => q hc1)) ?_
    refine ev_rn (n := 2) (i2 := 7) (L2 := [some (.ref 157)]) (st2 := [.ref 1003, .ref 157]) (g2 := g) cdE_52 rfl ?_
    obtain ⟨q22, hq22, h⟩ := Option.bind_eq_some_iff.mp h
    refine ev_call rfl cdE_47 rfl rfl rfl (e_Mo_expects 1003 (by decide) g hq22) ?_
    refine ev_rn (n := 2) (i2 := 10) (L2 := [some (.ref 157)]) (st2 := [.ref 1004, .ref 157]) (g2 := q22) cdE_52 rfl ?_
    obtain ⟨q23, hq23, h⟩ := Option.bind_eq_some_iff.mp h
    refine ev_call rfl cdE_47 rfl rfl rfl (e_Mo_expects 1004 (by decide) q22 hq23) ?_
    refine ev_rn (n := 6) (i2 := 17) (L2 := [some (.ref 157)]) (st2 := [.int (99 : Int32), .int (1 : Int32), .ref 157, .int (0 : Int32), .ref 161]) (g2 := q23) cdE_52 rfl ?_
    obtain ⟨q24, hq24, h⟩ := Option.bind_eq_some_iff.mp h
    refine ev_call rfl cdE_48 rfl rfl rfl (e_Mo_takes (1 : Int32) (99 : Int32)  q23 hq24) ?_
    refine bd_elim h (fun g25 hg25 h => ?_)
    refine ev_iastore (g2 := g25) rfl (show S0[161]? = some (100, 19, List.replicate 19 none) from rfl) (by decide) ⟨by decide, by decide⟩ (by rw [hg25] <;> rfl) ?_
    refine ev_rn (n := 1) (i2 := 55) (L2 := [some (.ref 157)]) (st2 := []) (g2 := g25) cdE_52 rfl ?_
    exact ev_wk (L := [some (.ref 157)]) (tj_Mo_readLine_55    g25 h) ⟨rfl, trivial⟩
  · rw [if_neg hc1] at h
    refine ev_zft cdE_52 rfl (cn_t hc1) ?_
    refine ev_rn (n := 2) (i2 := 22) (L2 := [some (.ref 157)]) (st2 := [.ref 1005, .ref 157]) (g2 := g) cdE_52 rfl ?_
    obtain ⟨q2, hq2, h⟩ := Option.bind_eq_some_iff.mp h
    refine ev_call rfl cdE_45 rfl rfl rfl (e_Mo_is 1005 (by decide) g hq2) ?_
    by_cases hc3 : q2 = 0
    · rw [if_pos hc3] at h
      refine ev_zft cdE_52 rfl (cn_t hc3) ?_
      refine ev_rn (n := 2) (i2 := 30) (L2 := [some (.ref 157)]) (st2 := [.ref 1006, .ref 157]) (g2 := g) cdE_52 rfl ?_
      obtain ⟨q4, hq4, h⟩ := Option.bind_eq_some_iff.mp h
      refine ev_call rfl cdE_45 rfl rfl rfl (e_Mo_is 1006 (by decide) g hq4) ?_
      by_cases hc5 : q4 = 0
      · rw [if_pos hc5] at h
        refine ev_zft cdE_52 rfl (cn_t hc5) ?_
        refine ev_rn (n := 2) (i2 := 38) (L2 := [some (.ref 157)]) (st2 := [.ref 1007, .ref 157]) (g2 := g) cdE_52 rfl ?_
        obtain ⟨q6, hq6, h⟩ := Option.bind_eq_some_iff.mp h
        refine ev_call rfl cdE_45 rfl rfl rfl (e_Mo_is 1007 (by decide) g hq6) ?_
        by_cases hc7 : q6 = 0
        · rw [if_pos hc7] at h
          refine ev_zft cdE_52 rfl (cn_t hc7) ?_
          refine ev_rn (n := 2) (i2 := 46) (L2 := [some (.ref 157)]) (st2 := [.ref 1008, .ref 157]) (g2 := g) cdE_52 rfl ?_
          obtain ⟨q8, hq8, h⟩ := Option.bind_eq_some_iff.mp h
          refine ev_call rfl cdE_45 rfl rfl rfl (e_Mo_is 1008 (by decide) g hq8) ?_
          by_cases hc9 : q8 = 0
          · rw [if_pos hc9] at h
            refine ev_zft cdE_52 rfl (cn_t hc9) ?_
            refine ev_rn (n := 2) (i2 := 54) (L2 := [some (.ref 157)]) (st2 := [.int (1 : Int32), .ref 157]) (g2 := g) cdE_52 rfl ?_
            obtain ⟨q10, hq10, h⟩ := Option.bind_eq_some_iff.mp h
            refine ev_call rfl cdE_46 rfl rfl rfl (e_Mo_errs (1 : Int32)  g hq10) ?_
            exact ev_wk (L := [some (.ref 157)]) (tj_Mo_readLine_55    q10 h) ⟨rfl, trivial⟩
          · rw [if_neg hc9] at h
            refine ev_zff rfl (cn_f hc9) ?_
            refine ev_rn (n := 2) (i2 := 50) (L2 := [some (.ref 157)]) (st2 := [.int (0 : Int32), .ref 157]) (g2 := g) cdE_52 rfl ?_
            obtain ⟨q18, hq18, h⟩ := Option.bind_eq_some_iff.mp h
            refine ev_call rfl cdE_51 rfl rfl rfl (e_Mo_readDirection (0 : Int32)  g hq18) ?_
            refine ev_rn (n := 1) (i2 := 55) (L2 := [some (.ref 157)]) (st2 := []) (g2 := q18) cdE_52 rfl ?_
            exact ev_wk (L := [some (.ref 157)]) (tj_Mo_readLine_55    q18 h) ⟨rfl, trivial⟩
        · rw [if_neg hc7] at h
          refine ev_zff rfl (cn_f hc7) ?_
          refine ev_rn (n := 2) (i2 := 42) (L2 := [some (.ref 157)]) (st2 := [.int (1 : Int32), .ref 157]) (g2 := g) cdE_52 rfl ?_
          obtain ⟨q19, hq19, h⟩ := Option.bind_eq_some_iff.mp h
          refine ev_call rfl cdE_51 rfl rfl rfl (e_Mo_readDirection (1 : Int32)  g hq19) ?_
          refine ev_rn (n := 1) (i2 := 55) (L2 := [some (.ref 157)]) (st2 := []) (g2 := q19) cdE_52 rfl ?_
          exact ev_wk (L := [some (.ref 157)]) (tj_Mo_readLine_55    q19 h) ⟨rfl, trivial⟩
      · rw [if_neg hc5] at h
        refine ev_zff rfl (cn_f hc5) ?_
        refine ev_rn (n := 2) (i2 := 34) (L2 := [some (.ref 157)]) (st2 := [.int (1 : Int32), .ref 157]) (g2 := g) cdE_52 rfl ?_
        obtain ⟨q20, hq20, h⟩ := Option.bind_eq_some_iff.mp h
        refine ev_call rfl cdE_49 rfl rfl rfl (e_Mo_readElement (1 : Int32)  g hq20) ?_
        refine ev_rn (n := 1) (i2 := 55) (L2 := [some (.ref 157)]) (st2 := []) (g2 := q20) cdE_52 rfl ?_
        exact ev_wk (L := [some (.ref 157)]) (tj_Mo_readLine_55    q20 h) ⟨rfl, trivial⟩
    · rw [if_neg hc3] at h
      refine ev_zff rfl (cn_f hc3) ?_
      refine ev_rn (n := 2) (i2 := 26) (L2 := [some (.ref 157)]) (st2 := [.int (0 : Int32), .ref 157]) (g2 := g) cdE_52 rfl ?_
      obtain ⟨q21, hq21, h⟩ := Option.bind_eq_some_iff.mp h
      refine ev_call rfl cdE_49 rfl rfl rfl (e_Mo_readElement (0 : Int32)  g hq21) ?_
      refine ev_rn (n := 1) (i2 := 55) (L2 := [some (.ref 157)]) (st2 := []) (g2 := q21) cdE_52 rfl ?_
      exact ev_wk (L := [some (.ref 157)]) (tj_Mo_readLine_55    q21 h) ⟨rfl, trivial⟩
def b_Mo_array_18  (v1 : Int32) (g : M2) : Option ((Int32 × M2) ⊕ M2) := (if (19 : Int32) ≤ v1 then some (.inr g) else (if inb v1 19 then (bd (uI g 161 v1.toNatClampNeg (0 : Int32)) fun g7 => some (.inl ((v1 + (1 : Int32)), g7))) else none))
theorem tb_Mo_array_18 {Lx : Nat}   (v1 : Int32) (g : M2) {b : (Int32 × M2) ⊕ M2} {o : Option Value × M2} (h : b_Mo_array_18 v1 g = some b) (hb : Sum.elim (fun s => Ev Lx 53 cd_53 18 [some (.ref 157), some (.int s.1)] [] s.2 o) (fun e => Ev Lx 53 cd_53 28 [some (.ref 157)] [] e o) b) : Ev Lx 53 cd_53 18 [some (.ref 157), some (.int v1)] [] g o := by
  unfold b_Mo_array_18 at h
  refine ev_rn (n := 2) (i2 := 20) (L2 := [some (.ref 157), some (.int v1)]) (st2 := [.int (19 : Int32), .int v1]) (g2 := g) cdE_53 rfl ?_
  by_cases hc6 : (19 : Int32) ≤ v1
  · rw [if_pos hc6] at h
    refine ev_ift cdE_53 rfl (cn_t hc6) ?_
    cases h
    exact ev_wk (L := [some (.ref 157)]) hb ⟨rfl, trivial⟩
  · rw [if_neg hc6] at h
    refine ev_iff rfl (cn_f hc6) ?_
    refine ev_rn (n := 4) (i2 := 25) (L2 := [some (.ref 157), some (.int v1)]) (st2 := [.int (0 : Int32), .int v1, .ref 161]) (g2 := g) cdE_53 rfl ?_
    by_cases hi8 : inb v1 19
    · rw [if_pos hi8] at h
      refine bd_elim h (fun g7 hg7 h => ?_)
      refine ev_iastore (g2 := g7) rfl (show S0[161]? = some (100, 19, List.replicate 19 none) from rfl) (by decide) hi8 (by rw [hg7] <;> rfl) ?_
      refine ev_rn (n := 2) (i2 := 18) (L2 := [some (.ref 157), some (.int (v1 + (1 : Int32)))]) (st2 := []) (g2 := g7) cdE_53 rfl ?_
      cases h
      exact ev_wk (L := [some (.ref 157), some (.int (v1 + (1 : Int32)))]) hb ⟨rfl, ⟨rfl, trivial⟩⟩
    · rw [if_neg hi8] at h
      cases h
def b_Mo_array_30   (g : M2) : Option (M2 ⊕ M2) := (if (f_Mo_good g) = 0 then some (.inr g) else (if (g.1 157 26) = 0 then some (.inr g) else ((f_Mo_readLine g).bind fun q13 => some (.inl q13))))
theorem tb_Mo_array_30 {Lx : Nat}    (g : M2) {b : M2 ⊕ M2} {o : Option Value × M2} (h : b_Mo_array_30  g = some b) (hb : Sum.elim (fun s => Ev Lx 53 cd_53 30 [some (.ref 157)] [] s o) (fun e => Ev Lx 53 cd_53 39 [some (.ref 157)] [] e o) b) : Ev Lx 53 cd_53 30 [some (.ref 157)] [] g o := by
  unfold b_Mo_array_30 at h
  refine ev_rn (n := 1) (i2 := 31) (L2 := [some (.ref 157)]) (st2 := [.ref 157]) (g2 := g) cdE_53 rfl ?_
  refine ev_call rfl cdE_44 rfl rfl rfl (e_Mo_good   g rfl) ?_
  by_cases hc11 : (f_Mo_good g) = 0
  · rw [if_pos hc11] at h
    refine ev_zft cdE_53 rfl (cn_t hc11) ?_
    cases h
    exact ev_wk (L := [some (.ref 157)]) hb ⟨rfl, trivial⟩
  · rw [if_neg hc11] at h
    refine ev_zff rfl (cn_f hc11) ?_
    refine ev_rn (n := 2) (i2 := 35) (L2 := [some (.ref 157)]) (st2 := [.int (g.1 157 26)]) (g2 := g) cdE_53 rfl ?_
    by_cases hc12 : (g.1 157 26) = 0
    · rw [if_pos hc12] at h
      refine ev_zft cdE_53 rfl (cn_t hc12) ?_
      cases h
      exact ev_wk (L := [some (.ref 157)]) hb ⟨rfl, trivial⟩
    · rw [if_neg hc12] at h
      refine ev_zff rfl (cn_f hc12) ?_
      refine ev_rn (n := 1) (i2 := 37) (L2 := [some (.ref 157)]) (st2 := [.ref 157]) (g2 := g) cdE_53 rfl ?_
      obtain ⟨q13, hq13, h⟩ := Option.bind_eq_some_iff.mp h
      refine ev_call rfl cdE_52 rfl rfl rfl (e_Mo_readLine   g hq13) ?_
      refine ev_rn (n := 1) (i2 := 30) (L2 := [some (.ref 157)]) (st2 := []) (g2 := q13) cdE_53 rfl ?_
      cases h
      exact ev_wk (L := [some (.ref 157)]) hb ⟨rfl, trivial⟩
def b_Mo_array_46  (v1 : Int32) (g : M2) : Option ((Int32 × M2) ⊕ M2) := (if (19 : Int32) ≤ v1 then some (.inr g) else (if inb v1 19 then (if inb v1 19 then (bd (uI g 160 v1.toNatClampNeg (g.1 161 v1.toNatClampNeg)) fun g18 => some (.inl ((v1 + (1 : Int32)), g18))) else none) else none))
theorem tb_Mo_array_46 {Lx : Nat}   (v1 : Int32) (g : M2) {b : (Int32 × M2) ⊕ M2} {o : Option Value × M2} (h : b_Mo_array_46 v1 g = some b) (hb : Sum.elim (fun s => Ev Lx 53 cd_53 46 [some (.ref 157), some (.int s.1)] [] s.2 o) (fun e => Ev Lx 53 cd_53 59 [some (.ref 157)] [] e o) b) : Ev Lx 53 cd_53 46 [some (.ref 157), some (.int v1)] [] g o := by
  unfold b_Mo_array_46 at h
  refine ev_rn (n := 2) (i2 := 48) (L2 := [some (.ref 157), some (.int v1)]) (st2 := [.int (19 : Int32), .int v1]) (g2 := g) cdE_53 rfl ?_
  by_cases hc16 : (19 : Int32) ≤ v1
  · rw [if_pos hc16] at h
    refine ev_ift cdE_53 rfl (cn_t hc16) ?_
    cases h
    exact ev_wk (L := [some (.ref 157)]) hb ⟨rfl, trivial⟩
  · rw [if_neg hc16] at h
    refine ev_iff rfl (cn_f hc16) ?_
    refine ev_rn (n := 6) (i2 := 55) (L2 := [some (.ref 157), some (.int v1)]) (st2 := [.int v1, .ref 161, .int v1, .ref 160]) (g2 := g) cdE_53 rfl ?_
    by_cases hi17 : inb v1 19
    · rw [if_pos hi17] at h
      refine ev_iaload (v := .int (g.1 161 v1.toNatClampNeg)) rfl (kd_of (show S0[161]? = some (100, 19, List.replicate 19 none) from rfl)) (by decide) hi17 rfl ?_
      by_cases hi19 : inb v1 19
      · rw [if_pos hi19] at h
        refine bd_elim h (fun g18 hg18 h => ?_)
        refine ev_iastore (g2 := g18) rfl (show S0[160]? = some (100, 19, List.replicate 19 none) from rfl) (by decide) hi19 (by rw [hg18] <;> rfl) ?_
        refine ev_rn (n := 2) (i2 := 46) (L2 := [some (.ref 157), some (.int (v1 + (1 : Int32)))]) (st2 := []) (g2 := g18) cdE_53 rfl ?_
        cases h
        exact ev_wk (L := [some (.ref 157), some (.int (v1 + (1 : Int32)))]) hb ⟨rfl, ⟨rfl, trivial⟩⟩
      · rw [if_neg hi19] at h
        cases h
    · rw [if_neg hi17] at h
      cases h
def j_Mo_array_39  (g : M2) : Option (Int32 × M2) := (if (f_Mo_good g) = 0 then some ((-4 : Int32), g) else ((lp (fun s => b_Mo_array_46  s.1 s.2) 5000 ((0 : Int32), g)).bind fun e20 => some ((e20.1 160 18), e20)))
theorem tj_Mo_array_39 {Lx : Nat}    (g : M2) {b : (Int32 × M2)} (h : j_Mo_array_39  g = some b) : Ev Lx 53 cd_53 39 [some (.ref 157)] [] g (some (.int b.1), b.2) := by
  unfold j_Mo_array_39 at h
  refine ev_rn (n := 1) (i2 := 40) (L2 := [some (.ref 157)]) (st2 := [.ref 157]) (g2 := g) cdE_53 rfl ?_
  refine ev_call rfl cdE_44 rfl rfl rfl (e_Mo_good   g rfl) ?_
  by_cases hc15 : (f_Mo_good g) = 0
  · rw [if_pos hc15] at h
    refine ev_zff rfl (cn_f (fun q => q hc15)) ?_
    refine ev_rn (n := 1) (i2 := 43) (L2 := [some (.ref 157)]) (st2 := [.int (-4 : Int32)]) (g2 := g) cdE_53 rfl ?_
    cases h
    exact ev_ret rfl rfl
  · rw [if_neg hc15] at h
    refine ev_zft cdE_53 rfl (cn_t hc15) ?_
    refine ev_rn (n := 2) (i2 := 46) (L2 := [some (.ref 157), some (.int (0 : Int32))]) (st2 := []) (g2 := g) cdE_53 rfl ?_
    obtain ⟨e20, he20, h⟩ := Option.bind_eq_some_iff.mp h
    have hX21 : Ev Lx 53 cd_53 59 [some (.ref 157)] [] e20 (some (.int b.1), b.2) := by
      refine ev_rn (n := 3) (i2 := 62) (L2 := [some (.ref 157)]) (st2 := [.int (18 : Int32), .ref 160]) (g2 := e20) cdE_53 rfl ?_
      refine ev_iaload (v := .int (e20.1 160 18)) rfl (kd_of (show S0[160]? = some (100, 19, List.replicate 19 none) from rfl)) (by decide) ⟨by decide, by decide⟩ rfl ?_
      cases h
      exact ev_ret rfl rfl
    exact ev_wk (L := [some (.ref 157), some (.int (0 : Int32))]) (lp_ind (P := (fun (s : (Int32 × M2)) => Ev Lx 53 cd_53 46 [some (.ref 157), some (.int s.1)] [] s.2 (some (.int b.1), b.2))) (fun s s2 hs hP => tb_Mo_array_46   s.1 s.2 (b := .inl s2) hs hP) (fun s hs => tb_Mo_array_46   s.1 s.2 (b := .inr e20) hs hX21) _ _ he20) ⟨rfl, ⟨rfl, trivial⟩⟩
def f_Mo_array  (g : M2) : Option (Int32 × M2) := (bd (uI g 157 23 (g.1 157 21)) fun g1 => (bd (uI g1 157 21 (0 : Int32)) fun g2 => (bd (uI g2 157 24 (0 : Int32)) fun g3 => (bd (uI g3 157 28 (0 : Int32)) fun g4 => (bd (uI g4 157 29 (-1 : Int32)) fun g5 => ((lp (fun s => b_Mo_array_18  s.1 s.2) 5000 ((0 : Int32), g5)).bind fun e9 => ((f_Mo_advance e9).bind fun q10 => ((lp (fun s => b_Mo_array_30   s) 5000 q10).bind fun e14 => (j_Mo_array_39  e14)))))))))
theorem e_Mo_array {Lx : Nat}   (g : M2) {b : (Int32 × M2)} (h : f_Mo_array  g = some b) : Ev Lx 53 cd_53 0 [some (.ref 157)] [] g (some (.int b.1), b.2) := by
  unfold f_Mo_array at h
  refine ev_rn (n := 3) (i2 := 3) (L2 := [some (.ref 157)]) (st2 := [.int (g.1 157 21), .ref 157]) (g2 := g) cdE_53 rfl ?_
  refine bd_elim h (fun g1 hg1 h => ?_)
  refine ev_pf (g2 := g1) rfl (rfl : S0[157]? = some _) (by decide) (by rw [hg1] <;> rfl) ?_
  refine ev_rn (n := 2) (i2 := 6) (L2 := [some (.ref 157)]) (st2 := [.int (0 : Int32), .ref 157]) (g2 := g1) cdE_53 rfl ?_
  refine bd_elim h (fun g2 hg2 h => ?_)
  refine ev_pf (g2 := g2) rfl (rfl : S0[157]? = some _) (by decide) (by rw [hg2] <;> rfl) ?_
  refine ev_rn (n := 2) (i2 := 9) (L2 := [some (.ref 157)]) (st2 := [.int (0 : Int32), .ref 157]) (g2 := g2) cdE_53 rfl ?_
  refine bd_elim h (fun g3 hg3 h => ?_)
  refine ev_pf (g2 := g3) rfl (rfl : S0[157]? = some _) (by decide) (by rw [hg3] <;> rfl) ?_
  refine ev_rn (n := 2) (i2 := 12) (L2 := [some (.ref 157)]) (st2 := [.int (0 : Int32), .ref 157]) (g2 := g3) cdE_53 rfl ?_
  refine bd_elim h (fun g4 hg4 h => ?_)
  refine ev_pf (g2 := g4) rfl (rfl : S0[157]? = some _) (by decide) (by rw [hg4] <;> rfl) ?_
  refine ev_rn (n := 2) (i2 := 15) (L2 := [some (.ref 157)]) (st2 := [.int (-1 : Int32), .ref 157]) (g2 := g4) cdE_53 rfl ?_
  refine bd_elim h (fun g5 hg5 h => ?_)
  refine ev_pf (g2 := g5) rfl (rfl : S0[157]? = some _) (by decide) (by rw [hg5] <;> rfl) ?_
  refine ev_rn (n := 2) (i2 := 18) (L2 := [some (.ref 157), some (.int (0 : Int32))]) (st2 := []) (g2 := g5) cdE_53 rfl ?_
  obtain ⟨e9, he9, h⟩ := Option.bind_eq_some_iff.mp h
  have hX23 : Ev Lx 53 cd_53 28 [some (.ref 157)] [] e9 (some (.int b.1), b.2) := by
    refine ev_rn (n := 1) (i2 := 29) (L2 := [some (.ref 157)]) (st2 := [.ref 157]) (g2 := e9) cdE_53 rfl ?_
    obtain ⟨q10, hq10, h⟩ := Option.bind_eq_some_iff.mp h
    refine ev_call rfl cdE_43 rfl rfl rfl (e_Mo_advance   e9 hq10) ?_
    obtain ⟨e14, he14, h⟩ := Option.bind_eq_some_iff.mp h
    have hX22 : Ev Lx 53 cd_53 39 [some (.ref 157)] [] e14 (some (.int b.1), b.2) := by
      exact ev_wk (L := [some (.ref 157)]) (tj_Mo_array_39    e14 h) ⟨rfl, trivial⟩
    exact ev_wk (L := [some (.ref 157)]) (lp_ind (P := (fun (s : M2) => Ev Lx 53 cd_53 30 [some (.ref 157)] [] s (some (.int b.1), b.2))) (fun s s2 hs hP => tb_Mo_array_30    s (b := .inl s2) hs hP) (fun s hs => tb_Mo_array_30    s (b := .inr e14) hs hX22) _ _ he14) ⟨rfl, trivial⟩
  exact ev_wk (L := [some (.ref 157), some (.int (0 : Int32))]) (lp_ind (P := (fun (s : (Int32 × M2)) => Ev Lx 53 cd_53 18 [some (.ref 157), some (.int s.1)] [] s.2 (some (.int b.1), b.2))) (fun s s2 hs hP => tb_Mo_array_18   s.1 s.2 (b := .inl s2) hs hP) (fun s hs => tb_Mo_array_18   s.1 s.2 (b := .inr e9) hs hX23) _ _ he9) ⟨rfl, ⟨rfl, trivial⟩⟩
def f_Da_fault (p0 : Int32) (g : M2) : Int32 := (if p0 = 0 then (g.1 1 7) else (if p0 = (1 : Int32) then (g.1 1 8) else (-1 : Int32)))
theorem e_Da_fault {Lx : Nat} (p0 : Int32)  (g : M2) {b : Int32} (h : f_Da_fault p0 g = b) : Ev Lx 54 cd_54 0 [some (.ref 0), some (.int p0)] [] g (some (.int b), g) := by
  unfold f_Da_fault at h
  refine ev_rn (n := 1) (i2 := 1) (L2 := [some (.ref 0), some (.int p0)]) (st2 := [.int p0]) (g2 := g) cdE_54 rfl ?_
  by_cases hc1 : p0 = 0
  · rw [if_pos hc1] at h
    refine ev_zff rfl (cn_f (fun q => q hc1)) ?_
    refine ev_rn (n := 3) (i2 := 5) (L2 := [some (.ref 0), some (.int p0)]) (st2 := [.int (g.1 1 7)]) (g2 := g) cdE_54 rfl ?_
    subst h
    exact ev_ret rfl rfl
  · rw [if_neg hc1] at h
    refine ev_zft cdE_54 rfl (cn_t hc1) ?_
    refine ev_rn (n := 2) (i2 := 8) (L2 := [some (.ref 0), some (.int p0)]) (st2 := [.int (1 : Int32), .int p0]) (g2 := g) cdE_54 rfl ?_
    by_cases hc2 : p0 = (1 : Int32)
    · rw [if_pos hc2] at h
      refine ev_iff rfl (cn_f (fun q => q hc2)) ?_
      refine ev_rn (n := 4) (i2 := 14) (L2 := [some (.ref 0), some (.int p0)]) (st2 := [.int (g.1 1 8)]) (g2 := g) cdE_54 rfl ?_
      subst h
      exact ev_ret rfl rfl
    · rw [if_neg hc2] at h
      refine ev_ift cdE_54 rfl (cn_t hc2) ?_
      refine ev_rn (n := 1) (i2 := 14) (L2 := [some (.ref 0), some (.int p0)]) (st2 := [.int (-1 : Int32)]) (g2 := g) cdE_54 rfl ?_
      subst h
      exact ev_ret rfl rfl
def f_Mo_fault (p0 : Int32) (g : M2) : Int32 := (if p0 = 0 then (g.1 157 28) else (if p0 = (1 : Int32) then (g.1 157 29) else (-1 : Int32)))
theorem e_Mo_fault {Lx : Nat} (p0 : Int32)  (g : M2) {b : Int32} (h : f_Mo_fault p0 g = b) : Ev Lx 55 cd_55 0 [some (.ref 157), some (.int p0)] [] g (some (.int b), g) := by
  unfold f_Mo_fault at h
  refine ev_rn (n := 1) (i2 := 1) (L2 := [some (.ref 157), some (.int p0)]) (st2 := [.int p0]) (g2 := g) cdE_55 rfl ?_
  by_cases hc1 : p0 = 0
  · rw [if_pos hc1] at h
    refine ev_zff rfl (cn_f (fun q => q hc1)) ?_
    refine ev_rn (n := 3) (i2 := 12) (L2 := [some (.ref 157), some (.int p0)]) (st2 := [.int (g.1 157 28)]) (g2 := g) cdE_55 rfl ?_
    subst h
    exact ev_ret rfl rfl
  · rw [if_neg hc1] at h
    refine ev_zft cdE_55 rfl (cn_t hc1) ?_
    refine ev_rn (n := 2) (i2 := 7) (L2 := [some (.ref 157), some (.int p0)]) (st2 := [.int (1 : Int32), .int p0]) (g2 := g) cdE_55 rfl ?_
    by_cases hc2 : p0 = (1 : Int32)
    · rw [if_pos hc2] at h
      refine ev_iff rfl (cn_f (fun q => q hc2)) ?_
      refine ev_rn (n := 3) (i2 := 12) (L2 := [some (.ref 157), some (.int p0)]) (st2 := [.int (g.1 157 29)]) (g2 := g) cdE_55 rfl ?_
      subst h
      exact ev_ret rfl rfl
    · rw [if_neg hc2] at h
      refine ev_ift cdE_55 rfl (cn_t hc2) ?_
      refine ev_rn (n := 1) (i2 := 12) (L2 := [some (.ref 157), some (.int p0)]) (st2 := [.int (-1 : Int32)]) (g2 := g) cdE_55 rfl ?_
      subst h
      exact ev_ret rfl rfl
def f_Pl_workingBits (a0 : Nat) (g : M2) : Int32 := ((((1 : Int32) <<< ((g.1 a0 2) &&& 31)) - (1 : Int32)) &&& ((g.1 a0 3) ^^^ (-1 : Int32)))
theorem e_Pl_workingBits {Lx : Nat} (a0 : Nat) (ha0 : IsPlan a0) (g : M2) {b : Int32} (h : f_Pl_workingBits a0 g = b) : Ev Lx 56 cd_56 0 [some (.ref a0)] [] g (some (.int b), g) := by
  unfold f_Pl_workingBits at h
  refine ev_rn (n := 2) (i2 := 2) (L2 := [some (.ref a0)]) (st2 := [.ref a0, .int (1 : Int32)]) (g2 := g) cdE_56 rfl ?_
  refine ev_gf (v := .int (g.1 a0 2)) rfl (pl_at ha0) (by decide) rfl ?_
  refine ev_rn (n := 4) (i2 := 7) (L2 := [some (.ref a0)]) (st2 := [.ref a0, .int (((1 : Int32) <<< ((g.1 a0 2) &&& 31)) - (1 : Int32))]) (g2 := g) cdE_56 rfl ?_
  refine ev_gf (v := .int (g.1 a0 3)) rfl (pl_at ha0) (by decide) rfl ?_
  refine ev_rn (n := 3) (i2 := 11) (L2 := [some (.ref a0)]) (st2 := [.int ((((1 : Int32) <<< ((g.1 a0 2) &&& 31)) - (1 : Int32)) &&& ((g.1 a0 3) ^^^ (-1 : Int32)))]) (g2 := g) cdE_56 rfl ?_
  subst h
  exact ev_ret rfl rfl
def f_In_bitCount (p0 : Int32) (g : M2) : Int32 := ((((((((p0 - ((p0.toUInt32 >>> ((1 : Int32).toUInt32 &&& Int32.toUInt32 31)).toInt32 &&& (1431655765 : Int32))) &&& (858993459 : Int32)) + (((p0 - ((p0.toUInt32 >>> ((1 : Int32).toUInt32 &&& Int32.toUInt32 31)).toInt32 &&& (1431655765 : Int32))).toUInt32 >>> ((2 : Int32).toUInt32 &&& Int32.toUInt32 31)).toInt32 &&& (858993459 : Int32))) + ((((p0 - ((p0.toUInt32 >>> ((1 : Int32).toUInt32 &&& Int32.toUInt32 31)).toInt32 &&& (1431655765 : Int32))) &&& (858993459 : Int32)) + (((p0 - ((p0.toUInt32 >>> ((1 : Int32).toUInt32 &&& Int32.toUInt32 31)).toInt32 &&& (1431655765 : Int32))).toUInt32 >>> ((2 : Int32).toUInt32 &&& Int32.toUInt32 31)).toInt32 &&& (858993459 : Int32))).toUInt32 >>> ((4 : Int32).toUInt32 &&& Int32.toUInt32 31)).toInt32) &&& (252645135 : Int32)) + ((((((p0 - ((p0.toUInt32 >>> ((1 : Int32).toUInt32 &&& Int32.toUInt32 31)).toInt32 &&& (1431655765 : Int32))) &&& (858993459 : Int32)) + (((p0 - ((p0.toUInt32 >>> ((1 : Int32).toUInt32 &&& Int32.toUInt32 31)).toInt32 &&& (1431655765 : Int32))).toUInt32 >>> ((2 : Int32).toUInt32 &&& Int32.toUInt32 31)).toInt32 &&& (858993459 : Int32))) + ((((p0 - ((p0.toUInt32 >>> ((1 : Int32).toUInt32 &&& Int32.toUInt32 31)).toInt32 &&& (1431655765 : Int32))) &&& (858993459 : Int32)) + (((p0 - ((p0.toUInt32 >>> ((1 : Int32).toUInt32 &&& Int32.toUInt32 31)).toInt32 &&& (1431655765 : Int32))).toUInt32 >>> ((2 : Int32).toUInt32 &&& Int32.toUInt32 31)).toInt32 &&& (858993459 : Int32))).toUInt32 >>> ((4 : Int32).toUInt32 &&& Int32.toUInt32 31)).toInt32) &&& (252645135 : Int32)).toUInt32 >>> ((8 : Int32).toUInt32 &&& Int32.toUInt32 31)).toInt32) + (((((((p0 - ((p0.toUInt32 >>> ((1 : Int32).toUInt32 &&& Int32.toUInt32 31)).toInt32 &&& (1431655765 : Int32))) &&& (858993459 : Int32)) + (((p0 - ((p0.toUInt32 >>> ((1 : Int32).toUInt32 &&& Int32.toUInt32 31)).toInt32 &&& (1431655765 : Int32))).toUInt32 >>> ((2 : Int32).toUInt32 &&& Int32.toUInt32 31)).toInt32 &&& (858993459 : Int32))) + ((((p0 - ((p0.toUInt32 >>> ((1 : Int32).toUInt32 &&& Int32.toUInt32 31)).toInt32 &&& (1431655765 : Int32))) &&& (858993459 : Int32)) + (((p0 - ((p0.toUInt32 >>> ((1 : Int32).toUInt32 &&& Int32.toUInt32 31)).toInt32 &&& (1431655765 : Int32))).toUInt32 >>> ((2 : Int32).toUInt32 &&& Int32.toUInt32 31)).toInt32 &&& (858993459 : Int32))).toUInt32 >>> ((4 : Int32).toUInt32 &&& Int32.toUInt32 31)).toInt32) &&& (252645135 : Int32)) + ((((((p0 - ((p0.toUInt32 >>> ((1 : Int32).toUInt32 &&& Int32.toUInt32 31)).toInt32 &&& (1431655765 : Int32))) &&& (858993459 : Int32)) + (((p0 - ((p0.toUInt32 >>> ((1 : Int32).toUInt32 &&& Int32.toUInt32 31)).toInt32 &&& (1431655765 : Int32))).toUInt32 >>> ((2 : Int32).toUInt32 &&& Int32.toUInt32 31)).toInt32 &&& (858993459 : Int32))) + ((((p0 - ((p0.toUInt32 >>> ((1 : Int32).toUInt32 &&& Int32.toUInt32 31)).toInt32 &&& (1431655765 : Int32))) &&& (858993459 : Int32)) + (((p0 - ((p0.toUInt32 >>> ((1 : Int32).toUInt32 &&& Int32.toUInt32 31)).toInt32 &&& (1431655765 : Int32))).toUInt32 >>> ((2 : Int32).toUInt32 &&& Int32.toUInt32 31)).toInt32 &&& (858993459 : Int32))).toUInt32 >>> ((4 : Int32).toUInt32 &&& Int32.toUInt32 31)).toInt32) &&& (252645135 : Int32)).toUInt32 >>> ((8 : Int32).toUInt32 &&& Int32.toUInt32 31)).toInt32).toUInt32 >>> ((16 : Int32).toUInt32 &&& Int32.toUInt32 31)).toInt32) &&& (63 : Int32))
theorem e_In_bitCount {Lx : Nat} (p0 : Int32)  (g : M2) {b : Int32} (h : f_In_bitCount p0 g = b) : Ev Lx 57 cd_57 0 [some (.int p0)] [] g (some (.int b), g) := by
  unfold f_In_bitCount at h
  refine ev_rn (n := 18) (i2 := 18) (L2 := [some (.int (((p0 - ((p0.toUInt32 >>> ((1 : Int32).toUInt32 &&& Int32.toUInt32 31)).toInt32 &&& (1431655765 : Int32))) &&& (858993459 : Int32)) + (((p0 - ((p0.toUInt32 >>> ((1 : Int32).toUInt32 &&& Int32.toUInt32 31)).toInt32 &&& (1431655765 : Int32))).toUInt32 >>> ((2 : Int32).toUInt32 &&& Int32.toUInt32 31)).toInt32 &&& (858993459 : Int32))))]) (st2 := []) (g2 := g) cdE_57 rfl ?_
  refine ev_rn (n := 14) (i2 := 32) (L2 := [some (.int ((((((p0 - ((p0.toUInt32 >>> ((1 : Int32).toUInt32 &&& Int32.toUInt32 31)).toInt32 &&& (1431655765 : Int32))) &&& (858993459 : Int32)) + (((p0 - ((p0.toUInt32 >>> ((1 : Int32).toUInt32 &&& Int32.toUInt32 31)).toInt32 &&& (1431655765 : Int32))).toUInt32 >>> ((2 : Int32).toUInt32 &&& Int32.toUInt32 31)).toInt32 &&& (858993459 : Int32))) + ((((p0 - ((p0.toUInt32 >>> ((1 : Int32).toUInt32 &&& Int32.toUInt32 31)).toInt32 &&& (1431655765 : Int32))) &&& (858993459 : Int32)) + (((p0 - ((p0.toUInt32 >>> ((1 : Int32).toUInt32 &&& Int32.toUInt32 31)).toInt32 &&& (1431655765 : Int32))).toUInt32 >>> ((2 : Int32).toUInt32 &&& Int32.toUInt32 31)).toInt32 &&& (858993459 : Int32))).toUInt32 >>> ((4 : Int32).toUInt32 &&& Int32.toUInt32 31)).toInt32) &&& (252645135 : Int32)) + ((((((p0 - ((p0.toUInt32 >>> ((1 : Int32).toUInt32 &&& Int32.toUInt32 31)).toInt32 &&& (1431655765 : Int32))) &&& (858993459 : Int32)) + (((p0 - ((p0.toUInt32 >>> ((1 : Int32).toUInt32 &&& Int32.toUInt32 31)).toInt32 &&& (1431655765 : Int32))).toUInt32 >>> ((2 : Int32).toUInt32 &&& Int32.toUInt32 31)).toInt32 &&& (858993459 : Int32))) + ((((p0 - ((p0.toUInt32 >>> ((1 : Int32).toUInt32 &&& Int32.toUInt32 31)).toInt32 &&& (1431655765 : Int32))) &&& (858993459 : Int32)) + (((p0 - ((p0.toUInt32 >>> ((1 : Int32).toUInt32 &&& Int32.toUInt32 31)).toInt32 &&& (1431655765 : Int32))).toUInt32 >>> ((2 : Int32).toUInt32 &&& Int32.toUInt32 31)).toInt32 &&& (858993459 : Int32))).toUInt32 >>> ((4 : Int32).toUInt32 &&& Int32.toUInt32 31)).toInt32) &&& (252645135 : Int32)).toUInt32 >>> ((8 : Int32).toUInt32 &&& Int32.toUInt32 31)).toInt32))]) (st2 := []) (g2 := g) cdE_57 rfl ?_
  refine ev_rn (n := 9) (i2 := 41) (L2 := [some (.int (((((((p0 - ((p0.toUInt32 >>> ((1 : Int32).toUInt32 &&& Int32.toUInt32 31)).toInt32 &&& (1431655765 : Int32))) &&& (858993459 : Int32)) + (((p0 - ((p0.toUInt32 >>> ((1 : Int32).toUInt32 &&& Int32.toUInt32 31)).toInt32 &&& (1431655765 : Int32))).toUInt32 >>> ((2 : Int32).toUInt32 &&& Int32.toUInt32 31)).toInt32 &&& (858993459 : Int32))) + ((((p0 - ((p0.toUInt32 >>> ((1 : Int32).toUInt32 &&& Int32.toUInt32 31)).toInt32 &&& (1431655765 : Int32))) &&& (858993459 : Int32)) + (((p0 - ((p0.toUInt32 >>> ((1 : Int32).toUInt32 &&& Int32.toUInt32 31)).toInt32 &&& (1431655765 : Int32))).toUInt32 >>> ((2 : Int32).toUInt32 &&& Int32.toUInt32 31)).toInt32 &&& (858993459 : Int32))).toUInt32 >>> ((4 : Int32).toUInt32 &&& Int32.toUInt32 31)).toInt32) &&& (252645135 : Int32)) + ((((((p0 - ((p0.toUInt32 >>> ((1 : Int32).toUInt32 &&& Int32.toUInt32 31)).toInt32 &&& (1431655765 : Int32))) &&& (858993459 : Int32)) + (((p0 - ((p0.toUInt32 >>> ((1 : Int32).toUInt32 &&& Int32.toUInt32 31)).toInt32 &&& (1431655765 : Int32))).toUInt32 >>> ((2 : Int32).toUInt32 &&& Int32.toUInt32 31)).toInt32 &&& (858993459 : Int32))) + ((((p0 - ((p0.toUInt32 >>> ((1 : Int32).toUInt32 &&& Int32.toUInt32 31)).toInt32 &&& (1431655765 : Int32))) &&& (858993459 : Int32)) + (((p0 - ((p0.toUInt32 >>> ((1 : Int32).toUInt32 &&& Int32.toUInt32 31)).toInt32 &&& (1431655765 : Int32))).toUInt32 >>> ((2 : Int32).toUInt32 &&& Int32.toUInt32 31)).toInt32 &&& (858993459 : Int32))).toUInt32 >>> ((4 : Int32).toUInt32 &&& Int32.toUInt32 31)).toInt32) &&& (252645135 : Int32)).toUInt32 >>> ((8 : Int32).toUInt32 &&& Int32.toUInt32 31)).toInt32) + (((((((p0 - ((p0.toUInt32 >>> ((1 : Int32).toUInt32 &&& Int32.toUInt32 31)).toInt32 &&& (1431655765 : Int32))) &&& (858993459 : Int32)) + (((p0 - ((p0.toUInt32 >>> ((1 : Int32).toUInt32 &&& Int32.toUInt32 31)).toInt32 &&& (1431655765 : Int32))).toUInt32 >>> ((2 : Int32).toUInt32 &&& Int32.toUInt32 31)).toInt32 &&& (858993459 : Int32))) + ((((p0 - ((p0.toUInt32 >>> ((1 : Int32).toUInt32 &&& Int32.toUInt32 31)).toInt32 &&& (1431655765 : Int32))) &&& (858993459 : Int32)) + (((p0 - ((p0.toUInt32 >>> ((1 : Int32).toUInt32 &&& Int32.toUInt32 31)).toInt32 &&& (1431655765 : Int32))).toUInt32 >>> ((2 : Int32).toUInt32 &&& Int32.toUInt32 31)).toInt32 &&& (858993459 : Int32))).toUInt32 >>> ((4 : Int32).toUInt32 &&& Int32.toUInt32 31)).toInt32) &&& (252645135 : Int32)) + ((((((p0 - ((p0.toUInt32 >>> ((1 : Int32).toUInt32 &&& Int32.toUInt32 31)).toInt32 &&& (1431655765 : Int32))) &&& (858993459 : Int32)) + (((p0 - ((p0.toUInt32 >>> ((1 : Int32).toUInt32 &&& Int32.toUInt32 31)).toInt32 &&& (1431655765 : Int32))).toUInt32 >>> ((2 : Int32).toUInt32 &&& Int32.toUInt32 31)).toInt32 &&& (858993459 : Int32))) + ((((p0 - ((p0.toUInt32 >>> ((1 : Int32).toUInt32 &&& Int32.toUInt32 31)).toInt32 &&& (1431655765 : Int32))) &&& (858993459 : Int32)) + (((p0 - ((p0.toUInt32 >>> ((1 : Int32).toUInt32 &&& Int32.toUInt32 31)).toInt32 &&& (1431655765 : Int32))).toUInt32 >>> ((2 : Int32).toUInt32 &&& Int32.toUInt32 31)).toInt32 &&& (858993459 : Int32))).toUInt32 >>> ((4 : Int32).toUInt32 &&& Int32.toUInt32 31)).toInt32) &&& (252645135 : Int32)).toUInt32 >>> ((8 : Int32).toUInt32 &&& Int32.toUInt32 31)).toInt32).toUInt32 >>> ((16 : Int32).toUInt32 &&& Int32.toUInt32 31)).toInt32))]) (st2 := [.int ((((((((p0 - ((p0.toUInt32 >>> ((1 : Int32).toUInt32 &&& Int32.toUInt32 31)).toInt32 &&& (1431655765 : Int32))) &&& (858993459 : Int32)) + (((p0 - ((p0.toUInt32 >>> ((1 : Int32).toUInt32 &&& Int32.toUInt32 31)).toInt32 &&& (1431655765 : Int32))).toUInt32 >>> ((2 : Int32).toUInt32 &&& Int32.toUInt32 31)).toInt32 &&& (858993459 : Int32))) + ((((p0 - ((p0.toUInt32 >>> ((1 : Int32).toUInt32 &&& Int32.toUInt32 31)).toInt32 &&& (1431655765 : Int32))) &&& (858993459 : Int32)) + (((p0 - ((p0.toUInt32 >>> ((1 : Int32).toUInt32 &&& Int32.toUInt32 31)).toInt32 &&& (1431655765 : Int32))).toUInt32 >>> ((2 : Int32).toUInt32 &&& Int32.toUInt32 31)).toInt32 &&& (858993459 : Int32))).toUInt32 >>> ((4 : Int32).toUInt32 &&& Int32.toUInt32 31)).toInt32) &&& (252645135 : Int32)) + ((((((p0 - ((p0.toUInt32 >>> ((1 : Int32).toUInt32 &&& Int32.toUInt32 31)).toInt32 &&& (1431655765 : Int32))) &&& (858993459 : Int32)) + (((p0 - ((p0.toUInt32 >>> ((1 : Int32).toUInt32 &&& Int32.toUInt32 31)).toInt32 &&& (1431655765 : Int32))).toUInt32 >>> ((2 : Int32).toUInt32 &&& Int32.toUInt32 31)).toInt32 &&& (858993459 : Int32))) + ((((p0 - ((p0.toUInt32 >>> ((1 : Int32).toUInt32 &&& Int32.toUInt32 31)).toInt32 &&& (1431655765 : Int32))) &&& (858993459 : Int32)) + (((p0 - ((p0.toUInt32 >>> ((1 : Int32).toUInt32 &&& Int32.toUInt32 31)).toInt32 &&& (1431655765 : Int32))).toUInt32 >>> ((2 : Int32).toUInt32 &&& Int32.toUInt32 31)).toInt32 &&& (858993459 : Int32))).toUInt32 >>> ((4 : Int32).toUInt32 &&& Int32.toUInt32 31)).toInt32) &&& (252645135 : Int32)).toUInt32 >>> ((8 : Int32).toUInt32 &&& Int32.toUInt32 31)).toInt32) + (((((((p0 - ((p0.toUInt32 >>> ((1 : Int32).toUInt32 &&& Int32.toUInt32 31)).toInt32 &&& (1431655765 : Int32))) &&& (858993459 : Int32)) + (((p0 - ((p0.toUInt32 >>> ((1 : Int32).toUInt32 &&& Int32.toUInt32 31)).toInt32 &&& (1431655765 : Int32))).toUInt32 >>> ((2 : Int32).toUInt32 &&& Int32.toUInt32 31)).toInt32 &&& (858993459 : Int32))) + ((((p0 - ((p0.toUInt32 >>> ((1 : Int32).toUInt32 &&& Int32.toUInt32 31)).toInt32 &&& (1431655765 : Int32))) &&& (858993459 : Int32)) + (((p0 - ((p0.toUInt32 >>> ((1 : Int32).toUInt32 &&& Int32.toUInt32 31)).toInt32 &&& (1431655765 : Int32))).toUInt32 >>> ((2 : Int32).toUInt32 &&& Int32.toUInt32 31)).toInt32 &&& (858993459 : Int32))).toUInt32 >>> ((4 : Int32).toUInt32 &&& Int32.toUInt32 31)).toInt32) &&& (252645135 : Int32)) + ((((((p0 - ((p0.toUInt32 >>> ((1 : Int32).toUInt32 &&& Int32.toUInt32 31)).toInt32 &&& (1431655765 : Int32))) &&& (858993459 : Int32)) + (((p0 - ((p0.toUInt32 >>> ((1 : Int32).toUInt32 &&& Int32.toUInt32 31)).toInt32 &&& (1431655765 : Int32))).toUInt32 >>> ((2 : Int32).toUInt32 &&& Int32.toUInt32 31)).toInt32 &&& (858993459 : Int32))) + ((((p0 - ((p0.toUInt32 >>> ((1 : Int32).toUInt32 &&& Int32.toUInt32 31)).toInt32 &&& (1431655765 : Int32))) &&& (858993459 : Int32)) + (((p0 - ((p0.toUInt32 >>> ((1 : Int32).toUInt32 &&& Int32.toUInt32 31)).toInt32 &&& (1431655765 : Int32))).toUInt32 >>> ((2 : Int32).toUInt32 &&& Int32.toUInt32 31)).toInt32 &&& (858993459 : Int32))).toUInt32 >>> ((4 : Int32).toUInt32 &&& Int32.toUInt32 31)).toInt32) &&& (252645135 : Int32)).toUInt32 >>> ((8 : Int32).toUInt32 &&& Int32.toUInt32 31)).toInt32).toUInt32 >>> ((16 : Int32).toUInt32 &&& Int32.toUInt32 31)).toInt32) &&& (63 : Int32))]) (g2 := g) cdE_57 rfl ?_
  subst h
  exact ev_ret rfl rfl
def f_Pl_working (a0 : Nat) (g : M2) : Int32 := (f_In_bitCount (f_Pl_workingBits a0 g) g)
theorem e_Pl_working {Lx : Nat} (a0 : Nat) (ha0 : IsPlan a0) (g : M2) {b : Int32} (h : f_Pl_working a0 g = b) : Ev Lx 58 cd_58 0 [some (.ref a0)] [] g (some (.int b), g) := by
  unfold f_Pl_working at h
  refine ev_rn (n := 1) (i2 := 1) (L2 := [some (.ref a0)]) (st2 := [.ref a0]) (g2 := g) cdE_58 rfl ?_
  refine ev_call rfl cdE_56 (cokV rfl rfl (pl_at ha0) rfl) rfl rfl (e_Pl_workingBits a0 ha0 g rfl) ?_
  refine ev_call rfl cdE_57 rfl rfl rfl (e_In_bitCount (f_Pl_workingBits a0 g)  g rfl) ?_
  subst h
  exact ev_ret rfl rfl
def f_Pl_wishCount (a0 : Nat) (g : M2) : Int32 := (if (g.1 a0 4) = (-1 : Int32) then (g.1 a0 5) else ((g.1 a0 5) + (1 : Int32)))
theorem e_Pl_wishCount {Lx : Nat} (a0 : Nat) (ha0 : IsPlan a0) (g : M2) {b : Int32} (h : f_Pl_wishCount a0 g = b) : Ev Lx 59 cd_59 0 [some (.ref a0)] [] g (some (.int b), g) := by
  unfold f_Pl_wishCount at h
  refine ev_rn (n := 1) (i2 := 1) (L2 := [some (.ref a0)]) (st2 := [.ref a0]) (g2 := g) cdE_59 rfl ?_
  refine ev_gf (v := .int (g.1 a0 4)) rfl (pl_at ha0) (by decide) rfl ?_
  refine ev_rn (n := 1) (i2 := 3) (L2 := [some (.ref a0)]) (st2 := [.int (-1 : Int32), .int (g.1 a0 4)]) (g2 := g) cdE_59 rfl ?_
  by_cases hc1 : (g.1 a0 4) = (-1 : Int32)
  · rw [if_pos hc1] at h
    refine ev_iff rfl (cn_f (fun q => q hc1)) ?_
    refine ev_rn (n := 1) (i2 := 5) (L2 := [some (.ref a0)]) (st2 := [.ref a0]) (g2 := g) cdE_59 rfl ?_
    refine ev_gf (v := .int (g.1 a0 5)) rfl (pl_at ha0) (by decide) rfl ?_
    refine ev_rn (n := 1) (i2 := 11) (L2 := [some (.ref a0)]) (st2 := [.int (g.1 a0 5)]) (g2 := g) cdE_59 rfl ?_
    subst h
    exact ev_ret rfl rfl
  · rw [if_neg hc1] at h
    refine ev_ift cdE_59 rfl (cn_t hc1) ?_
    refine ev_rn (n := 1) (i2 := 8) (L2 := [some (.ref a0)]) (st2 := [.ref a0]) (g2 := g) cdE_59 rfl ?_
    refine ev_gf (v := .int (g.1 a0 5)) rfl (pl_at ha0) (by decide) rfl ?_
    refine ev_rn (n := 2) (i2 := 11) (L2 := [some (.ref a0)]) (st2 := [.int ((g.1 a0 5) + (1 : Int32))]) (g2 := g) cdE_59 rfl ?_
    subst h
    exact ev_ret rfl rfl
def f_Da_count (p0 : Int32) (g : M2) : Option (Int32) := (if p0 = 0 then some (g.1 7 2) else (if p0 = 1 then some (f_Pl_working 7 g) else (if p0 = 2 then some (g.1 7 6) else (if p0 = 3 then some (g.1 7 4) else (if p0 = 4 then ((f_Pl_deafBits 7 g).bind fun q10 => some q10) else (if p0 = 5 then some (f_Pl_wishCount 7 g) else (if p0 = 6 then some (g.1 7 7) else (if p0 = 7 then some (g.1 1 2) else (if p0 = 8 then some (g.1 153 1) else some (-1 : Int32))))))))))
theorem e_Da_count {Lx : Nat} (p0 : Int32)  (g : M2) {b : Int32} (h : f_Da_count p0 g = some b) : Ev Lx 60 cd_60 0 [some (.ref 0), some (.int p0)] [] g (some (.int b), g) := by
  unfold f_Da_count at h
  refine ev_rn (n := 5) (i2 := 5) (L2 := [some (.ref 0), some (.int p0), some (.ref 7)]) (st2 := [.int p0]) (g2 := g) cdE_60 rfl ?_
  by_cases hw1 : p0 = 0
  · rw [if_pos hw1] at h
    refine ev_swi (v := 0) (q := 2) cdE_60 rfl hw1 rfl rfl ?_
    refine ev_rn (n := 2) (i2 := 8) (L2 := [some (.ref 0), some (.int p0), some (.ref 7)]) (st2 := [.int (g.1 7 2)]) (g2 := g) cdE_60 rfl ?_
    cases h
    exact ev_ret rfl rfl
  · rw [if_neg hw1] at h
    by_cases hw2 : p0 = 1
    · rw [if_pos hw2] at h
      refine ev_swi (v := 1) (q := 4) cdE_60 rfl hw2 rfl rfl ?_
      refine ev_rn (n := 1) (i2 := 10) (L2 := [some (.ref 0), some (.int p0), some (.ref 7)]) (st2 := [.ref 7]) (g2 := g) cdE_60 rfl ?_
      refine ev_call rfl cdE_58 rfl rfl rfl (e_Pl_working 7 (by decide) g rfl) ?_
      cases h
      exact ev_ret rfl rfl
    · rw [if_neg hw2] at h
      by_cases hw3 : p0 = 2
      · rw [if_pos hw3] at h
        refine ev_swi (v := 2) (q := 6) cdE_60 rfl hw3 rfl rfl ?_
        refine ev_rn (n := 2) (i2 := 14) (L2 := [some (.ref 0), some (.int p0), some (.ref 7)]) (st2 := [.int (g.1 7 6)]) (g2 := g) cdE_60 rfl ?_
        cases h
        exact ev_ret rfl rfl
      · rw [if_neg hw3] at h
        by_cases hw4 : p0 = 3
        · rw [if_pos hw4] at h
          refine ev_swi (v := 3) (q := 8) cdE_60 rfl hw4 rfl rfl ?_
          refine ev_rn (n := 2) (i2 := 17) (L2 := [some (.ref 0), some (.int p0), some (.ref 7)]) (st2 := [.int (g.1 7 4)]) (g2 := g) cdE_60 rfl ?_
          cases h
          exact ev_ret rfl rfl
        · rw [if_neg hw4] at h
          by_cases hw5 : p0 = 4
          · rw [if_pos hw5] at h
            refine ev_swi (v := 4) (q := 10) cdE_60 rfl hw5 rfl rfl ?_
            refine ev_rn (n := 1) (i2 := 19) (L2 := [some (.ref 0), some (.int p0), some (.ref 7)]) (st2 := [.ref 7]) (g2 := g) cdE_60 rfl ?_
            obtain ⟨q10, hq10, h⟩ := Option.bind_eq_some_iff.mp h
            refine ev_call rfl cdE_31 rfl rfl rfl (e_Pl_deafBits 7 (by decide) g hq10) ?_
            cases h
            exact ev_ret rfl rfl
          · rw [if_neg hw5] at h
            by_cases hw6 : p0 = 5
            · rw [if_pos hw6] at h
              refine ev_swi (v := 5) (q := 12) cdE_60 rfl hw6 rfl rfl ?_
              refine ev_rn (n := 1) (i2 := 22) (L2 := [some (.ref 0), some (.int p0), some (.ref 7)]) (st2 := [.ref 7]) (g2 := g) cdE_60 rfl ?_
              refine ev_call rfl cdE_59 rfl rfl rfl (e_Pl_wishCount 7 (by decide) g rfl) ?_
              cases h
              exact ev_ret rfl rfl
            · rw [if_neg hw6] at h
              by_cases hw7 : p0 = 6
              · rw [if_pos hw7] at h
                refine ev_swi (v := 6) (q := 14) cdE_60 rfl hw7 rfl rfl ?_
                refine ev_rn (n := 2) (i2 := 26) (L2 := [some (.ref 0), some (.int p0), some (.ref 7)]) (st2 := [.int (g.1 7 7)]) (g2 := g) cdE_60 rfl ?_
                cases h
                exact ev_ret rfl rfl
              · rw [if_neg hw7] at h
                by_cases hw8 : p0 = 7
                · rw [if_pos hw8] at h
                  refine ev_swi (v := 7) (q := 16) cdE_60 rfl hw8 rfl rfl ?_
                  refine ev_rn (n := 3) (i2 := 30) (L2 := [some (.ref 0), some (.int p0), some (.ref 7)]) (st2 := [.int (g.1 1 2)]) (g2 := g) cdE_60 rfl ?_
                  cases h
                  exact ev_ret rfl rfl
                · rw [if_neg hw8] at h
                  by_cases hw9 : p0 = 8
                  · rw [if_pos hw9] at h
                    refine ev_swi (v := 8) (q := 18) cdE_60 rfl hw9 rfl rfl ?_
                    refine ev_rn (n := 3) (i2 := 34) (L2 := [some (.ref 0), some (.int p0), some (.ref 7)]) (st2 := [.int (g.1 153 1)]) (g2 := g) cdE_60 rfl ?_
                    cases h
                    exact ev_ret rfl rfl
                  · rw [if_neg hw9] at h
                    have nhw1 : p0.toInt ≠ 0 := fun z => hw1 (Int32.toInt_inj.mp (z.trans (by decide)))
                    have nhw2 : p0.toInt ≠ 1 := fun z => hw2 (Int32.toInt_inj.mp (z.trans (by decide)))
                    have nhw3 : p0.toInt ≠ 2 := fun z => hw3 (Int32.toInt_inj.mp (z.trans (by decide)))
                    have nhw4 : p0.toInt ≠ 3 := fun z => hw4 (Int32.toInt_inj.mp (z.trans (by decide)))
                    have nhw5 : p0.toInt ≠ 4 := fun z => hw5 (Int32.toInt_inj.mp (z.trans (by decide)))
                    have nhw6 : p0.toInt ≠ 5 := fun z => hw6 (Int32.toInt_inj.mp (z.trans (by decide)))
                    have nhw7 : p0.toInt ≠ 6 := fun z => hw7 (Int32.toInt_inj.mp (z.trans (by decide)))
                    have nhw8 : p0.toInt ≠ 7 := fun z => hw8 (Int32.toInt_inj.mp (z.trans (by decide)))
                    have nhw9 : p0.toInt ≠ 8 := fun z => hw9 (Int32.toInt_inj.mp (z.trans (by decide)))
                    refine ev_swo cdE_60 rfl (by omega) ?_
                    refine ev_rn (n := 1) (i2 := 36) (L2 := [some (.ref 0), some (.int p0), some (.ref 7)]) (st2 := [.int (-1 : Int32)]) (g2 := g) cdE_60 rfl ?_
                    cases h
                    exact ev_ret rfl rfl
def f_Mo_isBroken (p0 : Int32) (g : M2) : Option (Int32) := (if inb ((7 : Int32) + p0) 19 then (if (g.1 160 ((7 : Int32) + p0).toNatClampNeg) = (1 : Int32) then some (1 : Int32) else some (0 : Int32)) else none)
theorem e_Mo_isBroken {Lx : Nat} (p0 : Int32)  (g : M2) {b : Int32} (h : f_Mo_isBroken p0 g = some b) : Ev Lx 61 cd_61 0 [some (.ref 157), some (.int p0)] [] g (some (.int b), g) := by
  unfold f_Mo_isBroken at h
  refine ev_rn (n := 5) (i2 := 5) (L2 := [some (.ref 157), some (.int p0)]) (st2 := [.int ((7 : Int32) + p0), .ref 160]) (g2 := g) cdE_61 rfl ?_
  by_cases hi1 : inb ((7 : Int32) + p0) 19
  · rw [if_pos hi1] at h
    refine ev_iaload (v := .int (g.1 160 ((7 : Int32) + p0).toNatClampNeg)) rfl (kd_of (show S0[160]? = some (100, 19, List.replicate 19 none) from rfl)) (by decide) hi1 rfl ?_
    refine ev_rn (n := 1) (i2 := 7) (L2 := [some (.ref 157), some (.int p0)]) (st2 := [.int (1 : Int32), .int (g.1 160 ((7 : Int32) + p0).toNatClampNeg)]) (g2 := g) cdE_61 rfl ?_
    by_cases hc2 : (g.1 160 ((7 : Int32) + p0).toNatClampNeg) = (1 : Int32)
    · rw [if_pos hc2] at h
      refine ev_iff rfl (cn_f (fun q => q hc2)) ?_
      refine ev_rn (n := 2) (i2 := 11) (L2 := [some (.ref 157), some (.int p0)]) (st2 := [.int (1 : Int32)]) (g2 := g) cdE_61 rfl ?_
      cases h
      exact ev_ret rfl rt_1
    · rw [if_neg hc2] at h
      refine ev_ift cdE_61 rfl (cn_t hc2) ?_
      refine ev_rn (n := 1) (i2 := 11) (L2 := [some (.ref 157), some (.int p0)]) (st2 := [.int (0 : Int32)]) (g2 := g) cdE_61 rfl ?_
      cases h
      exact ev_ret rfl rt_0
  · rw [if_neg hi1] at h
    cases h
def b_Mo_whole_4  (v1 : Int32) (v2 : Int32) (g : M2) : Option ((Int32 × Int32) ⊕ Int32) := (if (g.1 160 1) ≤ v2 then some (.inr v1) else ((f_Mo_isBroken v2 g).bind fun q2 => (if q2 = 0 then some (.inl ((v1 + (1 : Int32)), (v2 + (1 : Int32)))) else some (.inl ((v1 + (0 : Int32)), (v2 + (1 : Int32)))))))
theorem tb_Mo_whole_4 {Lx : Nat}   (v1 : Int32) (v2 : Int32) (g : M2) {b : (Int32 × Int32) ⊕ Int32} {o : Option Value × M2} (h : b_Mo_whole_4 v1 v2 g = some b) (hb : Sum.elim (fun s => Ev Lx 62 cd_62 4 [some (.ref 157), some (.int s.1), some (.int s.2)] [] g o) (fun e => Ev Lx 62 cd_62 22 [none, some (.int e)] [] g o) b) : Ev Lx 62 cd_62 4 [some (.ref 157), some (.int v1), some (.int v2)] [] g o := by
  unfold b_Mo_whole_4 at h
  refine ev_rn (n := 4) (i2 := 8) (L2 := [some (.ref 157), some (.int v1), some (.int v2)]) (st2 := [.int (1 : Int32), .ref 160, .int v2]) (g2 := g) cdE_62 rfl ?_
  refine ev_iaload (v := .int (g.1 160 1)) rfl (kd_of (show S0[160]? = some (100, 19, List.replicate 19 none) from rfl)) (by decide) ⟨by decide, by decide⟩ rfl ?_
  by_cases hc1 : (g.1 160 1) ≤ v2
  · rw [if_pos hc1] at h
    refine ev_ift cdE_62 rfl (cn_t hc1) ?_
    cases h
    exact ev_wk (L := [none, some (.int v1)]) hb ⟨rfl, trivial⟩
  · rw [if_neg hc1] at h
    refine ev_iff rfl (cn_f hc1) ?_
    refine ev_rn (n := 3) (i2 := 13) (L2 := [some (.ref 157), some (.int v1), some (.int v2)]) (st2 := [.int v2, .ref 157, .int v1]) (g2 := g) cdE_62 rfl ?_
    obtain ⟨q2, hq2, h⟩ := Option.bind_eq_some_iff.mp h
    refine ev_call rfl cdE_61 rfl rfl rfl (e_Mo_isBroken v2  g hq2) ?_
    by_cases hc3 : q2 = 0
    · rw [if_pos hc3] at h
      refine ev_zft cdE_62 rfl (cn_t hc3) ?_
      refine ev_rn (n := 4) (i2 := 21) (L2 := [some (.ref 157), some (.int (v1 + (1 : Int32))), some (.int (v2 + (1 : Int32)))]) (st2 := []) (g2 := g) cdE_62 rfl ?_
      refine ev_rn (n := 1) (i2 := 4) (L2 := [some (.ref 157), some (.int (v1 + (1 : Int32))), some (.int (v2 + (1 : Int32)))]) (st2 := []) (g2 := g) cdE_62 rfl ?_
      cases h
      exact ev_wk (L := [some (.ref 157), some (.int (v1 + (1 : Int32))), some (.int (v2 + (1 : Int32)))]) hb ⟨rfl, ⟨rfl, ⟨rfl, trivial⟩⟩⟩
    · rw [if_neg hc3] at h
      refine ev_zff rfl (cn_f hc3) ?_
      refine ev_rn (n := 5) (i2 := 21) (L2 := [some (.ref 157), some (.int (v1 + (0 : Int32))), some (.int (v2 + (1 : Int32)))]) (st2 := []) (g2 := g) cdE_62 rfl ?_
      refine ev_rn (n := 1) (i2 := 4) (L2 := [some (.ref 157), some (.int (v1 + (0 : Int32))), some (.int (v2 + (1 : Int32)))]) (st2 := []) (g2 := g) cdE_62 rfl ?_
      cases h
      exact ev_wk (L := [some (.ref 157), some (.int (v1 + (0 : Int32))), some (.int (v2 + (1 : Int32)))]) hb ⟨rfl, ⟨rfl, ⟨rfl, trivial⟩⟩⟩
def f_Mo_whole  (g : M2) : Option (Int32) := ((lp (fun s => b_Mo_whole_4  s.1 s.2 g) 5000 ((0 : Int32), (0 : Int32))).bind fun e4 => some e4)
theorem e_Mo_whole {Lx : Nat}   (g : M2) {b : Int32} (h : f_Mo_whole  g = some b) : Ev Lx 62 cd_62 0 [some (.ref 157)] [] g (some (.int b), g) := by
  unfold f_Mo_whole at h
  refine ev_rn (n := 4) (i2 := 4) (L2 := [some (.ref 157), some (.int (0 : Int32)), some (.int (0 : Int32))]) (st2 := []) (g2 := g) cdE_62 rfl ?_
  obtain ⟨e4, he4, h⟩ := Option.bind_eq_some_iff.mp h
  have hX5 : Ev Lx 62 cd_62 22 [none, some (.int e4)] [] g (some (.int b), g) := by
    refine ev_rn (n := 1) (i2 := 23) (L2 := [none, some (.int e4)]) (st2 := [.int e4]) (g2 := g) cdE_62 rfl ?_
    cases h
    exact ev_ret rfl rfl
  exact ev_wk (L := [some (.ref 157), some (.int (0 : Int32)), some (.int (0 : Int32))]) (lp_ind (P := (fun (s : (Int32 × Int32)) => Ev Lx 62 cd_62 4 [some (.ref 157), some (.int s.1), some (.int s.2)] [] g (some (.int b), g))) (fun s s2 hs hP => tb_Mo_whole_4   s.1 s.2 g (b := .inl s2) hs hP) (fun s hs => tb_Mo_whole_4   s.1 s.2 g (b := .inr e4) hs hX5) _ _ he4) ⟨rfl, ⟨rfl, ⟨rfl, trivial⟩⟩⟩
def f_Mo_lookNow  (g : M2) : Option (Int32) := some ((g.1 160 12) - (1 : Int32))
theorem e_Mo_lookNow {Lx : Nat}   (g : M2) {b : Int32} (h : f_Mo_lookNow  g = some b) : Ev Lx 63 cd_63 0 [some (.ref 157)] [] g (some (.int b), g) := by
  unfold f_Mo_lookNow at h
  refine ev_rn (n := 3) (i2 := 3) (L2 := [some (.ref 157)]) (st2 := [.int (12 : Int32), .ref 160]) (g2 := g) cdE_63 rfl ?_
  refine ev_iaload (v := .int (g.1 160 12)) rfl (kd_of (show S0[160]? = some (100, 19, List.replicate 19 none) from rfl)) (by decide) ⟨by decide, by decide⟩ rfl ?_
  refine ev_rn (n := 2) (i2 := 6) (L2 := [some (.ref 157)]) (st2 := [.int ((g.1 160 12) - (1 : Int32))]) (g2 := g) cdE_63 rfl ?_
  cases h
  exact ev_ret rfl rfl
def b_Mo_count_4 (v1 : Int32) (v2 : Int32) (v3 : Int32) (g : M2) : Option ((Int32 × Int32) ⊕ Int32) := (if (g.1 160 13) ≤ v3 then some (.inr v2) else (if inb ((14 : Int32) + v3) 19 then some (.inl ((v2 ||| ((1 : Int32) <<< ((g.1 160 ((14 : Int32) + v3).toNatClampNeg) &&& 31))), (v3 + (1 : Int32)))) else none))
theorem tb_Mo_count_4 {Lx : Nat} (v1 : Int32)  (v2 : Int32) (v3 : Int32) (g : M2) {b : (Int32 × Int32) ⊕ Int32} {o : Option Value × M2} (h : b_Mo_count_4 v1 v2 v3 g = some b) (hb : Sum.elim (fun s => Ev Lx 64 cd_64 4 [some (.ref 157), some (.int v1), some (.int s.1), some (.int s.2)] [] g o) (fun e => Ev Lx 64 cd_64 23 [some (.ref 157), some (.int v1), some (.int e)] [] g o) b) : Ev Lx 64 cd_64 4 [some (.ref 157), some (.int v1), some (.int v2), some (.int v3)] [] g o := by
  unfold b_Mo_count_4 at h
  refine ev_rn (n := 4) (i2 := 8) (L2 := [some (.ref 157), some (.int v1), some (.int v2), some (.int v3)]) (st2 := [.int (13 : Int32), .ref 160, .int v3]) (g2 := g) cdE_64 rfl ?_
  refine ev_iaload (v := .int (g.1 160 13)) rfl (kd_of (show S0[160]? = some (100, 19, List.replicate 19 none) from rfl)) (by decide) ⟨by decide, by decide⟩ rfl ?_
  by_cases hc1 : (g.1 160 13) ≤ v3
  · rw [if_pos hc1] at h
    refine ev_ift cdE_64 rfl (cn_t hc1) ?_
    cases h
    exact ev_wk (L := [some (.ref 157), some (.int v1), some (.int v2)]) hb ⟨rfl, ⟨rfl, ⟨rfl, trivial⟩⟩⟩
  · rw [if_neg hc1] at h
    refine ev_iff rfl (cn_f hc1) ?_
    refine ev_rn (n := 7) (i2 := 17) (L2 := [some (.ref 157), some (.int v1), some (.int v2), some (.int v3)]) (st2 := [.int ((14 : Int32) + v3), .ref 160, .int (1 : Int32), .int v2]) (g2 := g) cdE_64 rfl ?_
    by_cases hi2 : inb ((14 : Int32) + v3) 19
    · rw [if_pos hi2] at h
      refine ev_iaload (v := .int (g.1 160 ((14 : Int32) + v3).toNatClampNeg)) rfl (kd_of (show S0[160]? = some (100, 19, List.replicate 19 none) from rfl)) (by decide) hi2 rfl ?_
      refine ev_rn (n := 4) (i2 := 22) (L2 := [some (.ref 157), some (.int v1), some (.int (v2 ||| ((1 : Int32) <<< ((g.1 160 ((14 : Int32) + v3).toNatClampNeg) &&& 31)))), some (.int (v3 + (1 : Int32)))]) (st2 := []) (g2 := g) cdE_64 rfl ?_
      refine ev_rn (n := 1) (i2 := 4) (L2 := [some (.ref 157), some (.int v1), some (.int (v2 ||| ((1 : Int32) <<< ((g.1 160 ((14 : Int32) + v3).toNatClampNeg) &&& 31)))), some (.int (v3 + (1 : Int32)))]) (st2 := []) (g2 := g) cdE_64 rfl ?_
      cases h
      exact ev_wk (L := [some (.ref 157), some (.int v1), some (.int (v2 ||| ((1 : Int32) <<< ((g.1 160 ((14 : Int32) + v3).toNatClampNeg) &&& 31)))), some (.int (v3 + (1 : Int32)))]) hb ⟨rfl, ⟨rfl, ⟨rfl, ⟨rfl, trivial⟩⟩⟩⟩
    · rw [if_neg hi2] at h
      cases h
def f_Mo_count (p0 : Int32) (g : M2) : Option (Int32) := ((lp (fun s => b_Mo_count_4 p0 s.1 s.2 g) 5000 ((0 : Int32), (0 : Int32))).bind fun e3 => (if p0 = 0 then some (g.1 160 1) else (if p0 = 1 then ((f_Mo_whole g).bind fun q15 => some q15) else (if p0 = 2 then some (g.1 160 0) else (if p0 = 3 then ((f_Mo_lookNow g).bind fun q14 => some q14) else (if p0 = 4 then some e3 else (if p0 = 5 then (if (g.1 160 12) ≤ 0 then some ((g.1 160 13) + (0 : Int32)) else some ((g.1 160 13) + (1 : Int32))) else (if p0 = 6 then some (g.1 160 18) else (if p0 = 7 then some (g.1 157 21) else (if p0 = 8 then some (g.1 157 38) else some (-1 : Int32)))))))))))
theorem e_Mo_count {Lx : Nat} (p0 : Int32)  (g : M2) {b : Int32} (h : f_Mo_count p0 g = some b) : Ev Lx 64 cd_64 0 [some (.ref 157), some (.int p0)] [] g (some (.int b), g) := by
  unfold f_Mo_count at h
  refine ev_rn (n := 4) (i2 := 4) (L2 := [some (.ref 157), some (.int p0), some (.int (0 : Int32)), some (.int (0 : Int32))]) (st2 := []) (g2 := g) cdE_64 rfl ?_
  obtain ⟨e3, he3, h⟩ := Option.bind_eq_some_iff.mp h
  have hX16 : Ev Lx 64 cd_64 23 [some (.ref 157), some (.int p0), some (.int e3)] [] g (some (.int b), g) := by
    refine ev_rn (n := 1) (i2 := 24) (L2 := [some (.ref 157), some (.int p0), some (.int e3)]) (st2 := [.int p0]) (g2 := g) cdE_64 rfl ?_
    by_cases hw4 : p0 = 0
    · rw [if_pos hw4] at h
      refine ev_swi (v := 0) (q := 2) cdE_64 rfl hw4 rfl rfl ?_
      refine ev_rn (n := 3) (i2 := 28) (L2 := [some (.ref 157), some (.int p0), some (.int e3)]) (st2 := [.int (1 : Int32), .ref 160]) (g2 := g) cdE_64 rfl ?_
      refine ev_iaload (v := .int (g.1 160 1)) rfl (kd_of (show S0[160]? = some (100, 19, List.replicate 19 none) from rfl)) (by decide) ⟨by decide, by decide⟩ rfl ?_
      cases h
      exact ev_ret rfl rfl
    · rw [if_neg hw4] at h
      by_cases hw5 : p0 = 1
      · rw [if_pos hw5] at h
        refine ev_swi (v := 1) (q := 4) cdE_64 rfl hw5 rfl rfl ?_
        refine ev_rn (n := 1) (i2 := 31) (L2 := [some (.ref 157), some (.int p0), some (.int e3)]) (st2 := [.ref 157]) (g2 := g) cdE_64 rfl ?_
        obtain ⟨q15, hq15, h⟩ := Option.bind_eq_some_iff.mp h
        refine ev_call rfl cdE_62 rfl rfl rfl (e_Mo_whole   g hq15) ?_
        cases h
        exact ev_ret rfl rfl
      · rw [if_neg hw5] at h
        by_cases hw6 : p0 = 2
        · rw [if_pos hw6] at h
          refine ev_swi (v := 2) (q := 6) cdE_64 rfl hw6 rfl rfl ?_
          refine ev_rn (n := 3) (i2 := 36) (L2 := [some (.ref 157), some (.int p0), some (.int e3)]) (st2 := [.int (0 : Int32), .ref 160]) (g2 := g) cdE_64 rfl ?_
          refine ev_iaload (v := .int (g.1 160 0)) rfl (kd_of (show S0[160]? = some (100, 19, List.replicate 19 none) from rfl)) (by decide) ⟨by decide, by decide⟩ rfl ?_
          cases h
          exact ev_ret rfl rfl
        · rw [if_neg hw6] at h
          by_cases hw7 : p0 = 3
          · rw [if_pos hw7] at h
            refine ev_swi (v := 3) (q := 8) cdE_64 rfl hw7 rfl rfl ?_
            refine ev_rn (n := 1) (i2 := 39) (L2 := [some (.ref 157), some (.int p0), some (.int e3)]) (st2 := [.ref 157]) (g2 := g) cdE_64 rfl ?_
            obtain ⟨q14, hq14, h⟩ := Option.bind_eq_some_iff.mp h
            refine ev_call rfl cdE_63 rfl rfl rfl (e_Mo_lookNow   g hq14) ?_
            cases h
            exact ev_ret rfl rfl
          · rw [if_neg hw7] at h
            by_cases hw8 : p0 = 4
            · rw [if_pos hw8] at h
              refine ev_swi (v := 4) (q := 10) cdE_64 rfl hw8 rfl rfl ?_
              refine ev_rn (n := 1) (i2 := 42) (L2 := [some (.ref 157), some (.int p0), some (.int e3)]) (st2 := [.int e3]) (g2 := g) cdE_64 rfl ?_
              cases h
              exact ev_ret rfl rfl
            · rw [if_neg hw8] at h
              by_cases hw9 : p0 = 5
              · rw [if_pos hw9] at h
                refine ev_swi (v := 5) (q := 12) cdE_64 rfl hw9 rfl rfl ?_
                refine ev_rn (n := 3) (i2 := 46) (L2 := [some (.ref 157), some (.int p0), some (.int e3)]) (st2 := [.int (13 : Int32), .ref 160]) (g2 := g) cdE_64 rfl ?_
                refine ev_iaload (v := .int (g.1 160 13)) rfl (kd_of (show S0[160]? = some (100, 19, List.replicate 19 none) from rfl)) (by decide) ⟨by decide, by decide⟩ rfl ?_
                refine ev_rn (n := 3) (i2 := 50) (L2 := [some (.ref 157), some (.int p0), some (.int e3)]) (st2 := [.int (12 : Int32), .ref 160, .int (g.1 160 13)]) (g2 := g) cdE_64 rfl ?_
                refine ev_iaload (v := .int (g.1 160 12)) rfl (kd_of (show S0[160]? = some (100, 19, List.replicate 19 none) from rfl)) (by decide) ⟨by decide, by decide⟩ rfl ?_
                by_cases hc13 : (g.1 160 12) ≤ 0
                · rw [if_pos hc13] at h
                  refine ev_zft cdE_64 rfl (cn_t hc13) ?_
                  refine ev_rn (n := 2) (i2 := 56) (L2 := [some (.ref 157), some (.int p0), some (.int e3)]) (st2 := [.int ((g.1 160 13) + (0 : Int32))]) (g2 := g) cdE_64 rfl ?_
                  cases h
                  exact ev_ret rfl rfl
                · rw [if_neg hc13] at h
                  refine ev_zff rfl (cn_f hc13) ?_
                  refine ev_rn (n := 3) (i2 := 56) (L2 := [some (.ref 157), some (.int p0), some (.int e3)]) (st2 := [.int ((g.1 160 13) + (1 : Int32))]) (g2 := g) cdE_64 rfl ?_
                  cases h
                  exact ev_ret rfl rfl
              · rw [if_neg hw9] at h
                by_cases hw10 : p0 = 6
                · rw [if_pos hw10] at h
                  refine ev_swi (v := 6) (q := 14) cdE_64 rfl hw10 rfl rfl ?_
                  refine ev_rn (n := 3) (i2 := 60) (L2 := [some (.ref 157), some (.int p0), some (.int e3)]) (st2 := [.int (18 : Int32), .ref 160]) (g2 := g) cdE_64 rfl ?_
                  refine ev_iaload (v := .int (g.1 160 18)) rfl (kd_of (show S0[160]? = some (100, 19, List.replicate 19 none) from rfl)) (by decide) ⟨by decide, by decide⟩ rfl ?_
                  cases h
                  exact ev_ret rfl rfl
                · rw [if_neg hw10] at h
                  by_cases hw11 : p0 = 7
                  · rw [if_pos hw11] at h
                    refine ev_swi (v := 7) (q := 16) cdE_64 rfl hw11 rfl rfl ?_
                    refine ev_rn (n := 2) (i2 := 64) (L2 := [some (.ref 157), some (.int p0), some (.int e3)]) (st2 := [.int (g.1 157 21)]) (g2 := g) cdE_64 rfl ?_
                    cases h
                    exact ev_ret rfl rfl
                  · rw [if_neg hw11] at h
                    by_cases hw12 : p0 = 8
                    · rw [if_pos hw12] at h
                      refine ev_swi (v := 8) (q := 18) cdE_64 rfl hw12 rfl rfl ?_
                      refine ev_rn (n := 2) (i2 := 67) (L2 := [some (.ref 157), some (.int p0), some (.int e3)]) (st2 := [.int (g.1 157 38)]) (g2 := g) cdE_64 rfl ?_
                      cases h
                      exact ev_ret rfl rfl
                    · rw [if_neg hw12] at h
                      have nhw4 : p0.toInt ≠ 0 := fun z => hw4 (Int32.toInt_inj.mp (z.trans (by decide)))
                      have nhw5 : p0.toInt ≠ 1 := fun z => hw5 (Int32.toInt_inj.mp (z.trans (by decide)))
                      have nhw6 : p0.toInt ≠ 2 := fun z => hw6 (Int32.toInt_inj.mp (z.trans (by decide)))
                      have nhw7 : p0.toInt ≠ 3 := fun z => hw7 (Int32.toInt_inj.mp (z.trans (by decide)))
                      have nhw8 : p0.toInt ≠ 4 := fun z => hw8 (Int32.toInt_inj.mp (z.trans (by decide)))
                      have nhw9 : p0.toInt ≠ 5 := fun z => hw9 (Int32.toInt_inj.mp (z.trans (by decide)))
                      have nhw10 : p0.toInt ≠ 6 := fun z => hw10 (Int32.toInt_inj.mp (z.trans (by decide)))
                      have nhw11 : p0.toInt ≠ 7 := fun z => hw11 (Int32.toInt_inj.mp (z.trans (by decide)))
                      have nhw12 : p0.toInt ≠ 8 := fun z => hw12 (Int32.toInt_inj.mp (z.trans (by decide)))
                      refine ev_swo cdE_64 rfl (by omega) ?_
                      refine ev_rn (n := 1) (i2 := 69) (L2 := [some (.ref 157), some (.int p0), some (.int e3)]) (st2 := [.int (-1 : Int32)]) (g2 := g) cdE_64 rfl ?_
                      cases h
                      exact ev_ret rfl rfl
  exact ev_wk (L := [some (.ref 157), some (.int p0), some (.int (0 : Int32)), some (.int (0 : Int32))]) (lp_ind (P := (fun (s : (Int32 × Int32)) => Ev Lx 64 cd_64 4 [some (.ref 157), some (.int p0), some (.int s.1), some (.int s.2)] [] g (some (.int b), g))) (fun s s2 hs hP => tb_Mo_count_4 p0  s.1 s.2 g (b := .inl s2) hs hP) (fun s hs => tb_Mo_count_4 p0  s.1 s.2 g (b := .inr e3) hs hX16) _ _ he3) ⟨rfl, ⟨rfl, ⟨rfl, ⟨rfl, trivial⟩⟩⟩⟩
