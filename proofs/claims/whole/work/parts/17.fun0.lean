def b_Re_take_2 (v1 : Int32) (v2 : Int32) (g : M2) : Option ((Int32 × M2) ⊕ M2) := (if v2 < 0 then some (.inr g) else (if (300 : Int32) ≤ (g.1 1 2) then some (.inr g) else (if inb (g.1 1 2) 300 then some (.inl ((v2 + (-8 : Int32)), (uI (uI g 2 (g.1 1 2).toNatClampNeg ((v1 >>> (v2 &&& 31)) &&& (255 : Int32))) 1 2 (((uI g 2 (g.1 1 2).toNatClampNeg ((v1 >>> (v2 &&& 31)) &&& (255 : Int32))).1 1 2) + (1 : Int32))))) else none)))
theorem tb_Re_take_2 {Lx : Nat} (v1 : Int32)  (v2 : Int32) (g : M2) {b : (Int32 × M2) ⊕ M2} {o : Option Value × M2} (h : b_Re_take_2 v1 v2 g = some b) (hb : Sum.elim (fun s => Ev Lx 12 cd_12 2 [some (.ref 1), some (.int v1), some (.int s.1)] [] s.2 o) (fun e => Ev Lx 12 cd_12 26 [] [] e o) b) : Ev Lx 12 cd_12 2 [some (.ref 1), some (.int v1), some (.int v2)] [] g o := by
  unfold b_Re_take_2 at h
  refine ev_rn (n := 1) (i2 := 3) (L2 := [some (.ref 1), some (.int v1), some (.int v2)]) (st2 := [.int v2]) (g2 := g) cdE_12 rfl ?_
  by_cases hc1 : v2 < 0
  · rw [if_pos hc1] at h
    refine ev_zft cdE_12 rfl (cn_t hc1) ?_
    cases h
    exact ev_wk (L := []) hb trivial
  · rw [if_neg hc1] at h
    refine ev_zff rfl (cn_f hc1) ?_
    refine ev_rn (n := 3) (i2 := 7) (L2 := [some (.ref 1), some (.int v1), some (.int v2)]) (st2 := [.int (300 : Int32), .int (g.1 1 2)]) (g2 := g) cdE_12 rfl ?_
    by_cases hc2 : (300 : Int32) ≤ (g.1 1 2)
    · rw [if_pos hc2] at h
      refine ev_ift cdE_12 rfl (cn_t hc2) ?_
      cases h
      exact ev_wk (L := []) hb trivial
    · rw [if_neg hc2] at h
      refine ev_iff rfl (cn_f hc2) ?_
      refine ev_rn (n := 9) (i2 := 17) (L2 := [some (.ref 1), some (.int v1), some (.int v2)]) (st2 := [.int ((v1 >>> (v2 &&& 31)) &&& (255 : Int32)), .int (g.1 1 2), .ref 2]) (g2 := g) cdE_12 rfl ?_
      by_cases hi3 : inb (g.1 1 2) 300
      · rw [if_pos hi3] at h
        refine ev_iastore (g2 := (uI g 2 (g.1 1 2).toNatClampNeg ((v1 >>> (v2 &&& 31)) &&& (255 : Int32)))) rfl (show S0[2]? = some (100, 300, List.replicate 300 none) from rfl) (by decide) hi3 rfl ?_
        refine ev_rn (n := 8) (i2 := 2) (L2 := [some (.ref 1), some (.int v1), some (.int (v2 + (-8 : Int32)))]) (st2 := []) (g2 := (uI (uI g 2 (g.1 1 2).toNatClampNeg ((v1 >>> (v2 &&& 31)) &&& (255 : Int32))) 1 2 (((uI g 2 (g.1 1 2).toNatClampNeg ((v1 >>> (v2 &&& 31)) &&& (255 : Int32))).1 1 2) + (1 : Int32)))) cdE_12 rfl ?_
        cases h
        exact ev_wk (L := [some (.ref 1), some (.int v1), some (.int (v2 + (-8 : Int32)))]) hb ⟨rfl, ⟨rfl, ⟨rfl, trivial⟩⟩⟩
      · rw [if_neg hi3] at h
        cases h
def f_Re_take (p0 : Int32) (g : M2) : Option (M2) := ((lp (fun s => b_Re_take_2 p0 s.1 s.2) 5000 ((24 : Int32), g)).bind fun e4 => some e4)
theorem e_Re_take {Lx : Nat} (p0 : Int32)  (g : M2) {b : M2} (h : f_Re_take p0 g = some b) : Ev Lx 12 cd_12 0 [some (.ref 1), some (.int p0)] [] g (none, b) := by
  unfold f_Re_take at h
  refine ev_rn (n := 2) (i2 := 2) (L2 := [some (.ref 1), some (.int p0), some (.int (24 : Int32))]) (st2 := []) (g2 := g) cdE_12 rfl ?_
  obtain ⟨e4, he4, h⟩ := Option.bind_eq_some_iff.mp h
  have hX5 : Ev Lx 12 cd_12 26 [] [] e4 (none, b) := by
    cases h
    exact ev_ret rfl rfl
  exact ev_wk (L := [some (.ref 1), some (.int p0), some (.int (24 : Int32))]) (lp_ind (P := (fun (s : (Int32 × M2)) => Ev Lx 12 cd_12 2 [some (.ref 1), some (.int p0), some (.int s.1)] [] s.2 (none, b))) (fun s s2 hs hP => tb_Re_take_2 p0  s.1 s.2 (b := .inl s2) hs hP) (fun s hs => tb_Re_take_2 p0  s.1 s.2 (b := .inr e4) hs hX5) _ _ he4) ⟨rfl, ⟨rfl, ⟨rfl, trivial⟩⟩⟩
def f_Da_feed (p0 : Int32) (p1 : Int32) (p2 : Int32) (p3 : Int32) (p4 : Int32) (g : M2) : Option (Int32 × M2) := (if ((g.1 1 2) + (20 : Int32)) ≤ (300 : Int32) then ((f_Re_take p0 g).bind fun q2 => ((f_Re_take p1 q2).bind fun q3 => ((f_Re_take p2 q3).bind fun q4 => ((f_Re_take p3 q4).bind fun q5 => ((f_Re_take p4 q5).bind fun q6 => some ((q6.1 1 2), q6)))))) else some ((-1 : Int32), g))
theorem e_Da_feed {Lx : Nat} (p0 : Int32) (p1 : Int32) (p2 : Int32) (p3 : Int32) (p4 : Int32)  (g : M2) {b : (Int32 × M2)} (h : f_Da_feed p0 p1 p2 p3 p4 g = some b) : Ev Lx 13 cd_13 0 [some (.ref 0), some (.int p0), some (.int p1), some (.int p2), some (.int p3), some (.int p4)] [] g (some (.int b.1), b.2) := by
  unfold f_Da_feed at h
  refine ev_rn (n := 6) (i2 := 6) (L2 := [some (.ref 0), some (.int p0), some (.int p1), some (.int p2), some (.int p3), some (.int p4)]) (st2 := [.int (300 : Int32), .int ((g.1 1 2) + (20 : Int32))]) (g2 := g) cdE_13 rfl ?_
  by_cases hc1 : ((g.1 1 2) + (20 : Int32)) ≤ (300 : Int32)
  · rw [if_pos hc1] at h
    refine ev_ift cdE_13 rfl (cn_t hc1) ?_
    refine ev_rn (n := 3) (i2 := 12) (L2 := [some (.ref 0), some (.int p0), some (.int p1), some (.int p2), some (.int p3), some (.int p4)]) (st2 := [.int p0, .ref 1]) (g2 := g) cdE_13 rfl ?_
    obtain ⟨q2, hq2, h⟩ := Option.bind_eq_some_iff.mp h
    refine ev_call rfl cdE_12 rfl rfl rfl (e_Re_take p0  g hq2) ?_
    refine ev_rn (n := 3) (i2 := 16) (L2 := [some (.ref 0), some (.int p0), some (.int p1), some (.int p2), some (.int p3), some (.int p4)]) (st2 := [.int p1, .ref 1]) (g2 := q2) cdE_13 rfl ?_
    obtain ⟨q3, hq3, h⟩ := Option.bind_eq_some_iff.mp h
    refine ev_call rfl cdE_12 rfl rfl rfl (e_Re_take p1  q2 hq3) ?_
    refine ev_rn (n := 3) (i2 := 20) (L2 := [some (.ref 0), some (.int p0), some (.int p1), some (.int p2), some (.int p3), some (.int p4)]) (st2 := [.int p2, .ref 1]) (g2 := q3) cdE_13 rfl ?_
    obtain ⟨q4, hq4, h⟩ := Option.bind_eq_some_iff.mp h
    refine ev_call rfl cdE_12 rfl rfl rfl (e_Re_take p2  q3 hq4) ?_
    refine ev_rn (n := 3) (i2 := 24) (L2 := [some (.ref 0), some (.int p0), some (.int p1), some (.int p2), some (.int p3), some (.int p4)]) (st2 := [.int p3, .ref 1]) (g2 := q4) cdE_13 rfl ?_
    obtain ⟨q5, hq5, h⟩ := Option.bind_eq_some_iff.mp h
    refine ev_call rfl cdE_12 rfl rfl rfl (e_Re_take p3  q4 hq5) ?_
    refine ev_rn (n := 3) (i2 := 28) (L2 := [some (.ref 0), some (.int p0), some (.int p1), some (.int p2), some (.int p3), some (.int p4)]) (st2 := [.int p4, .ref 1]) (g2 := q5) cdE_13 rfl ?_
    obtain ⟨q6, hq6, h⟩ := Option.bind_eq_some_iff.mp h
    refine ev_call rfl cdE_12 rfl rfl rfl (e_Re_take p4  q5 hq6) ?_
    refine ev_rn (n := 3) (i2 := 32) (L2 := [some (.ref 0), some (.int p0), some (.int p1), some (.int p2), some (.int p3), some (.int p4)]) (st2 := [.int (q6.1 1 2)]) (g2 := q6) cdE_13 rfl ?_
    cases h
    exact ev_ret rfl rfl
  · rw [if_neg hc1] at h
    refine ev_iff rfl (cn_f hc1) ?_
    refine ev_rn (n := 1) (i2 := 8) (L2 := [some (.ref 0), some (.int p0), some (.int p1), some (.int p2), some (.int p3), some (.int p4)]) (st2 := [.int (-1 : Int32)]) (g2 := g) cdE_13 rfl ?_
    cases h
    exact ev_ret rfl rfl
def b_Mo_feed_35  (v6 : Int32) (g : M2) : Option ((Int32 × M2) ⊕ M2) := (if (20 : Int32) ≤ v6 then some (.inr g) else (if inb (v6 / (4 : Int32)) 5 then (if inb ((g.1 157 21) + v6) 300 then some (.inl ((v6 + (1 : Int32)), (uI g 167 ((g.1 157 21) + v6).toNatClampNeg ((g.1 168 (v6 / (4 : Int32)).toNatClampNeg) >>> (((24 : Int32) - ((8 : Int32) * (v6 - v6 / (4 : Int32) * (4 : Int32)))) &&& 31)).toInt8.toInt32.toInt8.toInt32))) else none) else none))
theorem tb_Mo_feed_35 {Lx : Nat}   (v6 : Int32) (g : M2) {b : (Int32 × M2) ⊕ M2} {o : Option Value × M2} (h : b_Mo_feed_35 v6 g = some b) (hb : Sum.elim (fun s => Ev Lx 14 cd_14 35 [some (.ref 157), none, none, none, none, none, some (.int s.1)] [] s.2 o) (fun e => Ev Lx 14 cd_14 62 [some (.ref 157)] [] e o) b) : Ev Lx 14 cd_14 35 [some (.ref 157), none, none, none, none, none, some (.int v6)] [] g o := by
  unfold b_Mo_feed_35 at h
  refine ev_rn (n := 2) (i2 := 37) (L2 := [some (.ref 157), none, none, none, none, none, some (.int v6)]) (st2 := [.int (20 : Int32), .int v6]) (g2 := g) cdE_14 rfl ?_
  by_cases hc2 : (20 : Int32) ≤ v6
  · rw [if_pos hc2] at h
    refine ev_ift cdE_14 rfl (cn_t hc2) ?_
    cases h
    exact ev_wk (L := [some (.ref 157)]) hb ⟨rfl, trivial⟩
  · rw [if_neg hc2] at h
    refine ev_iff rfl (cn_f hc2) ?_
    refine ev_rn (n := 10) (i2 := 48) (L2 := [some (.ref 157), none, none, none, none, none, some (.int v6)]) (st2 := [.int (4 : Int32), .int v6, .ref 168, .int ((g.1 157 21) + v6), .ref 167]) (g2 := g) cdE_14 rfl ?_
    refine ev_idiv rfl (by decide) ?_
    by_cases hi3 : inb (v6 / (4 : Int32)) 5
    · rw [if_pos hi3] at h
      refine ev_iaload (v := .int (g.1 168 (v6 / (4 : Int32)).toNatClampNeg)) rfl (kd_of (show S0[168]? = some (100, 5, List.replicate 5 none) from rfl)) (by decide) hi3 rfl ?_
      refine ev_rn (n := 4) (i2 := 54) (L2 := [some (.ref 157), none, none, none, none, none, some (.int v6)]) (st2 := [.int (4 : Int32), .int v6, .int (8 : Int32), .int (24 : Int32), .int (g.1 168 (v6 / (4 : Int32)).toNatClampNeg), .int ((g.1 157 21) + v6), .ref 167]) (g2 := g) cdE_14 rfl ?_
      refine ev_irem rfl (by decide) ?_
      refine ev_rn (n := 4) (i2 := 59) (L2 := [some (.ref 157), none, none, none, none, none, some (.int v6)]) (st2 := [.int ((g.1 168 (v6 / (4 : Int32)).toNatClampNeg) >>> (((24 : Int32) - ((8 : Int32) * (v6 - v6 / (4 : Int32) * (4 : Int32)))) &&& 31)).toInt8.toInt32, .int ((g.1 157 21) + v6), .ref 167]) (g2 := g) cdE_14 rfl ?_
      by_cases hi4 : inb ((g.1 157 21) + v6) 300
      · rw [if_pos hi4] at h
        refine ev_bastore (g2 := (uI g 167 ((g.1 157 21) + v6).toNatClampNeg ((g.1 168 (v6 / (4 : Int32)).toNatClampNeg) >>> (((24 : Int32) - ((8 : Int32) * (v6 - v6 / (4 : Int32) * (4 : Int32)))) &&& 31)).toInt8.toInt32.toInt8.toInt32)) rfl (show S0[167]? = some (102, 300, List.replicate 300 none) from rfl) (by decide) hi4 rfl ?_
        refine ev_rn (n := 2) (i2 := 35) (L2 := [some (.ref 157), none, none, none, none, none, some (.int (v6 + (1 : Int32)))]) (st2 := []) (g2 := (uI g 167 ((g.1 157 21) + v6).toNatClampNeg ((g.1 168 (v6 / (4 : Int32)).toNatClampNeg) >>> (((24 : Int32) - ((8 : Int32) * (v6 - v6 / (4 : Int32) * (4 : Int32)))) &&& 31)).toInt8.toInt32.toInt8.toInt32)) cdE_14 rfl ?_
        cases h
        exact ev_wk (L := [some (.ref 157), none, none, none, none, none, some (.int (v6 + (1 : Int32)))]) hb ⟨rfl, ⟨rfl, trivial⟩⟩
      · rw [if_neg hi4] at h
        cases h
    · rw [if_neg hi3] at h
      cases h
def f_Mo_feed (p0 : Int32) (p1 : Int32) (p2 : Int32) (p3 : Int32) (p4 : Int32) (g : M2) : Option (Int32 × M2) := (if ((g.1 157 21) + (20 : Int32)) ≤ (300 : Int32) then ((lp (fun s => b_Mo_feed_35  s.1 s.2) 5000 ((0 : Int32), (uI (uI (uI (uI (uI g 168 0 p0) 168 1 p1) 168 2 p2) 168 3 p3) 168 4 p4))).bind fun e5 => some (((uI e5 157 21 ((e5.1 157 21) + (20 : Int32))).1 157 21), (uI e5 157 21 ((e5.1 157 21) + (20 : Int32))))) else some ((-1 : Int32), g))
theorem e_Mo_feed {Lx : Nat} (p0 : Int32) (p1 : Int32) (p2 : Int32) (p3 : Int32) (p4 : Int32)  (g : M2) {b : (Int32 × M2)} (h : f_Mo_feed p0 p1 p2 p3 p4 g = some b) : Ev Lx 14 cd_14 0 [some (.ref 157), some (.int p0), some (.int p1), some (.int p2), some (.int p3), some (.int p4)] [] g (some (.int b.1), b.2) := by
  unfold f_Mo_feed at h
  refine ev_rn (n := 5) (i2 := 5) (L2 := [some (.ref 157), some (.int p0), some (.int p1), some (.int p2), some (.int p3), some (.int p4)]) (st2 := [.int (300 : Int32), .int ((g.1 157 21) + (20 : Int32))]) (g2 := g) cdE_14 rfl ?_
  by_cases hc1 : ((g.1 157 21) + (20 : Int32)) ≤ (300 : Int32)
  · rw [if_pos hc1] at h
    refine ev_ift cdE_14 rfl (cn_t hc1) ?_
    refine ev_rn (n := 4) (i2 := 12) (L2 := [some (.ref 157), some (.int p0), some (.int p1), some (.int p2), some (.int p3), some (.int p4)]) (st2 := [.int p0, .int (0 : Int32), .ref 168]) (g2 := g) cdE_14 rfl ?_
    refine ev_iastore (g2 := (uI g 168 0 p0)) rfl (show S0[168]? = some (100, 5, List.replicate 5 none) from rfl) (by decide) ⟨by decide, by decide⟩ rfl ?_
    refine ev_rn (n := 4) (i2 := 17) (L2 := [some (.ref 157), some (.int p0), some (.int p1), some (.int p2), some (.int p3), some (.int p4)]) (st2 := [.int p1, .int (1 : Int32), .ref 168]) (g2 := (uI g 168 0 p0)) cdE_14 rfl ?_
    refine ev_iastore (g2 := (uI (uI g 168 0 p0) 168 1 p1)) rfl (show S0[168]? = some (100, 5, List.replicate 5 none) from rfl) (by decide) ⟨by decide, by decide⟩ rfl ?_
    refine ev_rn (n := 4) (i2 := 22) (L2 := [some (.ref 157), some (.int p0), some (.int p1), some (.int p2), some (.int p3), some (.int p4)]) (st2 := [.int p2, .int (2 : Int32), .ref 168]) (g2 := (uI (uI g 168 0 p0) 168 1 p1)) cdE_14 rfl ?_
    refine ev_iastore (g2 := (uI (uI (uI g 168 0 p0) 168 1 p1) 168 2 p2)) rfl (show S0[168]? = some (100, 5, List.replicate 5 none) from rfl) (by decide) ⟨by decide, by decide⟩ rfl ?_
    refine ev_rn (n := 4) (i2 := 27) (L2 := [some (.ref 157), some (.int p0), some (.int p1), some (.int p2), some (.int p3), some (.int p4)]) (st2 := [.int p3, .int (3 : Int32), .ref 168]) (g2 := (uI (uI (uI g 168 0 p0) 168 1 p1) 168 2 p2)) cdE_14 rfl ?_
    refine ev_iastore (g2 := (uI (uI (uI (uI g 168 0 p0) 168 1 p1) 168 2 p2) 168 3 p3)) rfl (show S0[168]? = some (100, 5, List.replicate 5 none) from rfl) (by decide) ⟨by decide, by decide⟩ rfl ?_
    refine ev_rn (n := 4) (i2 := 32) (L2 := [some (.ref 157), some (.int p0), some (.int p1), some (.int p2), some (.int p3), some (.int p4)]) (st2 := [.int p4, .int (4 : Int32), .ref 168]) (g2 := (uI (uI (uI (uI g 168 0 p0) 168 1 p1) 168 2 p2) 168 3 p3)) cdE_14 rfl ?_
    refine ev_iastore (g2 := (uI (uI (uI (uI (uI g 168 0 p0) 168 1 p1) 168 2 p2) 168 3 p3) 168 4 p4)) rfl (show S0[168]? = some (100, 5, List.replicate 5 none) from rfl) (by decide) ⟨by decide, by decide⟩ rfl ?_
    refine ev_rn (n := 2) (i2 := 35) (L2 := [some (.ref 157), some (.int p0), some (.int p1), some (.int p2), some (.int p3), some (.int p4), some (.int (0 : Int32))]) (st2 := []) (g2 := (uI (uI (uI (uI (uI g 168 0 p0) 168 1 p1) 168 2 p2) 168 3 p3) 168 4 p4)) cdE_14 rfl ?_
    obtain ⟨e5, he5, h⟩ := Option.bind_eq_some_iff.mp h
    have hX6 : Ev Lx 14 cd_14 62 [some (.ref 157)] [] e5 (some (.int b.1), b.2) := by
      refine ev_rn (n := 8) (i2 := 70) (L2 := [some (.ref 157)]) (st2 := [.int ((uI e5 157 21 ((e5.1 157 21) + (20 : Int32))).1 157 21)]) (g2 := (uI e5 157 21 ((e5.1 157 21) + (20 : Int32)))) cdE_14 rfl ?_
      cases h
      exact ev_ret rfl rfl
    exact ev_wk (L := [some (.ref 157), none, none, none, none, none, some (.int (0 : Int32))]) (lp_ind (P := (fun (s : (Int32 × M2)) => Ev Lx 14 cd_14 35 [some (.ref 157), none, none, none, none, none, some (.int s.1)] [] s.2 (some (.int b.1), b.2))) (fun s s2 hs hP => tb_Mo_feed_35   s.1 s.2 (b := .inl s2) hs hP) (fun s hs => tb_Mo_feed_35   s.1 s.2 (b := .inr e5) hs hX6) _ _ he5) ⟨rfl, ⟨rfl, trivial⟩⟩
  · rw [if_neg hc1] at h
    refine ev_iff rfl (cn_f hc1) ?_
    refine ev_rn (n := 1) (i2 := 7) (L2 := [some (.ref 157), some (.int p0), some (.int p1), some (.int p2), some (.int p3), some (.int p4)]) (st2 := [.int (-1 : Int32)]) (g2 := g) cdE_14 rfl ?_
    cases h
    exact ev_ret rfl rfl
def f_Da_end (p0 : Int32) (g : M2) : Int32 × M2 := (if p0 < 0 then ((-1 : Int32), g) else (if p0 ≤ (g.1 1 2) then (p0, (uI g 1 2 p0)) else ((-1 : Int32), g)))
theorem e_Da_end {Lx : Nat} (p0 : Int32)  (g : M2) {b : (Int32 × M2)} (h : f_Da_end p0 g = b) : Ev Lx 15 cd_15 0 [some (.ref 0), some (.int p0)] [] g (some (.int b.1), b.2) := by
  unfold f_Da_end at h
  refine ev_rn (n := 1) (i2 := 1) (L2 := [some (.ref 0), some (.int p0)]) (st2 := [.int p0]) (g2 := g) cdE_15 rfl ?_
  by_cases hc1 : p0 < 0
  · rw [if_pos hc1] at h
    refine ev_zft cdE_15 rfl (cn_t hc1) ?_
    refine ev_rn (n := 1) (i2 := 8) (L2 := [some (.ref 0), some (.int p0)]) (st2 := [.int (-1 : Int32)]) (g2 := g) cdE_15 rfl ?_
    subst h
    exact ev_ret rfl rfl
  · rw [if_neg hc1] at h
    refine ev_zff rfl (cn_f hc1) ?_
    refine ev_rn (n := 4) (i2 := 6) (L2 := [some (.ref 0), some (.int p0)]) (st2 := [.int (g.1 1 2), .int p0]) (g2 := g) cdE_15 rfl ?_
    by_cases hc2 : p0 ≤ (g.1 1 2)
    · rw [if_pos hc2] at h
      refine ev_ift cdE_15 rfl (cn_t hc2) ?_
      refine ev_rn (n := 5) (i2 := 14) (L2 := [some (.ref 0), some (.int p0)]) (st2 := [.int p0]) (g2 := (uI g 1 2 p0)) cdE_15 rfl ?_
      subst h
      exact ev_ret rfl rfl
    · rw [if_neg hc2] at h
      refine ev_iff rfl (cn_f hc2) ?_
      refine ev_rn (n := 1) (i2 := 8) (L2 := [some (.ref 0), some (.int p0)]) (st2 := [.int (-1 : Int32)]) (g2 := g) cdE_15 rfl ?_
      subst h
      exact ev_ret rfl rfl
def f_Mo_in (p0 : Int64) (p1 : Int64) (p2 : Int64) (g : M2) : Int32 := (if p0 < p1 then (0 : Int32) else (if p2 < p0 then (0 : Int32) else (1 : Int32)))
theorem e_Mo_in {Lx : Nat} (p0 : Int64) (p1 : Int64) (p2 : Int64)  (g : M2) {b : Int32} (h : f_Mo_in p0 p1 p2 g = b) : Ev Lx 16 cd_16 0 [some (.long p0), none, some (.long p1), none, some (.long p2), none] [] g (some (.int b), g) := by
  unfold f_Mo_in at h
  refine ev_rn (n := 3) (i2 := 3) (L2 := [some (.long p0), none, some (.long p1), none, some (.long p2), none]) (st2 := [.int (lg_cmp p0 p1)]) (g2 := g) cdE_16 rfl ?_
  by_cases hc1 : p0 < p1
  · rw [if_pos hc1] at h
    refine ev_zft cdE_16 rfl (lc_lt_t hc1) ?_
    refine ev_rn (n := 1) (i2 := 11) (L2 := [some (.long p0), none, some (.long p1), none, some (.long p2), none]) (st2 := [.int (0 : Int32)]) (g2 := g) cdE_16 rfl ?_
    subst h
    exact ev_ret rfl rt_0
  · rw [if_neg hc1] at h
    refine ev_zff rfl (lc_lt_f hc1) ?_
    refine ev_rn (n := 3) (i2 := 7) (L2 := [some (.long p0), none, some (.long p1), none, some (.long p2), none]) (st2 := [.int (lg_cmp p0 p2)]) (g2 := g) cdE_16 rfl ?_
    by_cases hc2 : p2 < p0
    · rw [if_pos hc2] at h
      refine ev_zft cdE_16 rfl (lc_gt_t hc2) ?_
      refine ev_rn (n := 1) (i2 := 11) (L2 := [some (.long p0), none, some (.long p1), none, some (.long p2), none]) (st2 := [.int (0 : Int32)]) (g2 := g) cdE_16 rfl ?_
      subst h
      exact ev_ret rfl rt_0
    · rw [if_neg hc2] at h
      refine ev_zff rfl (lc_gt_f hc2) ?_
      refine ev_rn (n := 2) (i2 := 11) (L2 := [some (.long p0), none, some (.long p1), none, some (.long p2), none]) (st2 := [.int (1 : Int32)]) (g2 := g) cdE_16 rfl ?_
      subst h
      exact ev_ret rfl rt_1
def f_Mo_end (p0 : Int32) (g : M2) : Int32 × M2 := (if (f_Mo_in p0.toInt64 (0 : Int64) (g.1 157 21).toInt64 g) = 0 then ((-1 : Int32), g) else (p0, (uI g 157 21 p0)))
theorem e_Mo_end {Lx : Nat} (p0 : Int32)  (g : M2) {b : (Int32 × M2)} (h : f_Mo_end p0 g = b) : Ev Lx 17 cd_17 0 [some (.ref 157), some (.int p0)] [] g (some (.int b.1), b.2) := by
  unfold f_Mo_end at h
  refine ev_rn (n := 6) (i2 := 6) (L2 := [some (.ref 157), some (.int p0)]) (st2 := [.long (g.1 157 21).toInt64, .long (0 : Int64), .long p0.toInt64]) (g2 := g) cdE_17 rfl ?_
  refine ev_call rfl cdE_16 rfl rfl rfl (e_Mo_in p0.toInt64 (0 : Int64) (g.1 157 21).toInt64  g rfl) ?_
  by_cases hc1 : (f_Mo_in p0.toInt64 (0 : Int64) (g.1 157 21).toInt64 g) = 0
  · rw [if_pos hc1] at h
    refine ev_zff rfl (cn_f (fun q => q hc1)) ?_
    refine ev_rn (n := 1) (i2 := 9) (L2 := [some (.ref 157), some (.int p0)]) (st2 := [.int (-1 : Int32)]) (g2 := g) cdE_17 rfl ?_
    subst h
    exact ev_ret rfl rfl
  · rw [if_neg hc1] at h
    refine ev_zft cdE_17 rfl (cn_t hc1) ?_
    refine ev_rn (n := 4) (i2 := 14) (L2 := [some (.ref 157), some (.int p0)]) (st2 := [.int p0]) (g2 := (uI g 157 21 p0)) cdE_17 rfl ?_
    subst h
    exact ev_ret rfl rfl
def f_Pl_clear (a0 : Nat) (g : M2) : M2 := (uI (uI (uI (uI (uI (uI g a0 2 (0 : Int32)) a0 3 (0 : Int32)) a0 4 (-1 : Int32)) a0 5 (0 : Int32)) a0 6 (0 : Int32)) a0 7 (0 : Int32))
theorem e_Pl_clear {Lx : Nat} (a0 : Nat) (ha0 : IsPlan a0) (g : M2) {b : M2} (h : f_Pl_clear a0 g = b) : Ev Lx 18 cd_18 0 [some (.ref a0)] [] g (none, b) := by
  unfold f_Pl_clear at h
  refine ev_rn (n := 2) (i2 := 2) (L2 := [some (.ref a0)]) (st2 := [.int (0 : Int32), .ref a0]) (g2 := g) cdE_18 rfl ?_
  refine ev_pf (g2 := (uI g a0 2 (0 : Int32))) rfl (pl_at ha0) (by decide) rfl ?_
  refine ev_rn (n := 2) (i2 := 5) (L2 := [some (.ref a0)]) (st2 := [.int (0 : Int32), .ref a0]) (g2 := (uI g a0 2 (0 : Int32))) cdE_18 rfl ?_
  refine ev_pf (g2 := (uI (uI g a0 2 (0 : Int32)) a0 3 (0 : Int32))) rfl (pl_at ha0) (by decide) rfl ?_
  refine ev_rn (n := 2) (i2 := 8) (L2 := [some (.ref a0)]) (st2 := [.int (-1 : Int32), .ref a0]) (g2 := (uI (uI g a0 2 (0 : Int32)) a0 3 (0 : Int32))) cdE_18 rfl ?_
  refine ev_pf (g2 := (uI (uI (uI g a0 2 (0 : Int32)) a0 3 (0 : Int32)) a0 4 (-1 : Int32))) rfl (pl_at ha0) (by decide) rfl ?_
  refine ev_rn (n := 2) (i2 := 11) (L2 := [some (.ref a0)]) (st2 := [.int (0 : Int32), .ref a0]) (g2 := (uI (uI (uI g a0 2 (0 : Int32)) a0 3 (0 : Int32)) a0 4 (-1 : Int32))) cdE_18 rfl ?_
  refine ev_pf (g2 := (uI (uI (uI (uI g a0 2 (0 : Int32)) a0 3 (0 : Int32)) a0 4 (-1 : Int32)) a0 5 (0 : Int32))) rfl (pl_at ha0) (by decide) rfl ?_
  refine ev_rn (n := 2) (i2 := 14) (L2 := [some (.ref a0)]) (st2 := [.int (0 : Int32), .ref a0]) (g2 := (uI (uI (uI (uI g a0 2 (0 : Int32)) a0 3 (0 : Int32)) a0 4 (-1 : Int32)) a0 5 (0 : Int32))) cdE_18 rfl ?_
  refine ev_pf (g2 := (uI (uI (uI (uI (uI g a0 2 (0 : Int32)) a0 3 (0 : Int32)) a0 4 (-1 : Int32)) a0 5 (0 : Int32)) a0 6 (0 : Int32))) rfl (pl_at ha0) (by decide) rfl ?_
  refine ev_rn (n := 2) (i2 := 17) (L2 := [some (.ref a0)]) (st2 := [.int (0 : Int32), .ref a0]) (g2 := (uI (uI (uI (uI (uI g a0 2 (0 : Int32)) a0 3 (0 : Int32)) a0 4 (-1 : Int32)) a0 5 (0 : Int32)) a0 6 (0 : Int32))) cdE_18 rfl ?_
  refine ev_pf (g2 := (uI (uI (uI (uI (uI (uI g a0 2 (0 : Int32)) a0 3 (0 : Int32)) a0 4 (-1 : Int32)) a0 5 (0 : Int32)) a0 6 (0 : Int32)) a0 7 (0 : Int32))) rfl (pl_at ha0) (by decide) rfl ?_
  subst h
  exact ev_ret rfl rfl
def f_Re_isLetter (p0 : Int32) (g : M2) : Int32 := (if p0 < (97 : Int32) then (0 : Int32) else (if (122 : Int32) < p0 then (0 : Int32) else (1 : Int32)))
theorem e_Re_isLetter {Lx : Nat} (p0 : Int32)  (g : M2) {b : Int32} (h : f_Re_isLetter p0 g = b) : Ev Lx 19 cd_19 0 [some (.int p0)] [] g (some (.int b), g) := by
  unfold f_Re_isLetter at h
  refine ev_rn (n := 2) (i2 := 2) (L2 := [some (.int p0)]) (st2 := [.int (97 : Int32), .int p0]) (g2 := g) cdE_19 rfl ?_
  by_cases hc1 : p0 < (97 : Int32)
  · rw [if_pos hc1] at h
    refine ev_ift cdE_19 rfl (cn_t hc1) ?_
    refine ev_rn (n := 1) (i2 := 9) (L2 := [some (.int p0)]) (st2 := [.int (0 : Int32)]) (g2 := g) cdE_19 rfl ?_
    subst h
    exact ev_ret rfl rt_0
  · rw [if_neg hc1] at h
    refine ev_iff rfl (cn_f hc1) ?_
    refine ev_rn (n := 2) (i2 := 5) (L2 := [some (.int p0)]) (st2 := [.int (122 : Int32), .int p0]) (g2 := g) cdE_19 rfl ?_
    by_cases hc2 : (122 : Int32) < p0
    · rw [if_pos hc2] at h
      refine ev_ift cdE_19 rfl (cn_t hc2) ?_
      refine ev_rn (n := 1) (i2 := 9) (L2 := [some (.int p0)]) (st2 := [.int (0 : Int32)]) (g2 := g) cdE_19 rfl ?_
      subst h
      exact ev_ret rfl rt_0
    · rw [if_neg hc2] at h
      refine ev_iff rfl (cn_f hc2) ?_
      refine ev_rn (n := 2) (i2 := 9) (L2 := [some (.int p0)]) (st2 := [.int (1 : Int32)]) (g2 := g) cdE_19 rfl ?_
      subst h
      exact ev_ret rfl rt_1
def f_Re_isDigit (p0 : Int32) (g : M2) : Int32 := (if p0 < (48 : Int32) then (0 : Int32) else (if (57 : Int32) < p0 then (0 : Int32) else (1 : Int32)))
theorem e_Re_isDigit {Lx : Nat} (p0 : Int32)  (g : M2) {b : Int32} (h : f_Re_isDigit p0 g = b) : Ev Lx 20 cd_20 0 [some (.int p0)] [] g (some (.int b), g) := by
  unfold f_Re_isDigit at h
  refine ev_rn (n := 2) (i2 := 2) (L2 := [some (.int p0)]) (st2 := [.int (48 : Int32), .int p0]) (g2 := g) cdE_20 rfl ?_
  by_cases hc1 : p0 < (48 : Int32)
  · rw [if_pos hc1] at h
    refine ev_ift cdE_20 rfl (cn_t hc1) ?_
    refine ev_rn (n := 1) (i2 := 9) (L2 := [some (.int p0)]) (st2 := [.int (0 : Int32)]) (g2 := g) cdE_20 rfl ?_
    subst h
    exact ev_ret rfl rt_0
  · rw [if_neg hc1] at h
    refine ev_iff rfl (cn_f hc1) ?_
    refine ev_rn (n := 2) (i2 := 5) (L2 := [some (.int p0)]) (st2 := [.int (57 : Int32), .int p0]) (g2 := g) cdE_20 rfl ?_
    by_cases hc2 : (57 : Int32) < p0
    · rw [if_pos hc2] at h
      refine ev_ift cdE_20 rfl (cn_t hc2) ?_
      refine ev_rn (n := 1) (i2 := 9) (L2 := [some (.int p0)]) (st2 := [.int (0 : Int32)]) (g2 := g) cdE_20 rfl ?_
      subst h
      exact ev_ret rfl rt_0
    · rw [if_neg hc2] at h
      refine ev_iff rfl (cn_f hc2) ?_
      refine ev_rn (n := 2) (i2 := 9) (L2 := [some (.int p0)]) (st2 := [.int (1 : Int32)]) (g2 := g) cdE_20 rfl ?_
      subst h
      exact ev_ret rfl rt_1
def f_Ma_min (p0 : Int32) (p1 : Int32) (g : M2) : Int32 := (if p1 < p0 then p1 else p0)
theorem e_Ma_min {Lx : Nat} (p0 : Int32) (p1 : Int32)  (g : M2) {b : Int32} (h : f_Ma_min p0 p1 g = b) : Ev Lx 21 cd_21 0 [some (.int p0), some (.int p1)] [] g (some (.int b), g) := by
  unfold f_Ma_min at h
  refine ev_rn (n := 2) (i2 := 2) (L2 := [some (.int p0), some (.int p1)]) (st2 := [.int p1, .int p0]) (g2 := g) cdE_21 rfl ?_
  by_cases hc1 : p1 < p0
  · rw [if_pos hc1] at h
    refine ev_ift cdE_21 rfl (cn_t hc1) ?_
    refine ev_rn (n := 1) (i2 := 6) (L2 := [some (.int p0), some (.int p1)]) (st2 := [.int p1]) (g2 := g) cdE_21 rfl ?_
    subst h
    exact ev_ret rfl rfl
  · rw [if_neg hc1] at h
    refine ev_iff rfl (cn_f hc1) ?_
    refine ev_rn (n := 2) (i2 := 6) (L2 := [some (.int p0), some (.int p1)]) (st2 := [.int p0]) (g2 := g) cdE_21 rfl ?_
    subst h
    exact ev_ret rfl rfl
def b_Re_nextToken_0   (g : M2) : Option (M2 ⊕ M2) := (if (g.1 1 2) ≤ (g.1 1 3) then some (.inr g) else (if inb (g.1 1 3) 300 then (if (g.1 2 (g.1 1 3).toNatClampNeg) = (32 : Int32) then some (.inl (uI g 1 3 ((g.1 1 3) + (1 : Int32)))) else (if inb (g.1 1 3) 300 then (if (g.1 2 (g.1 1 3).toNatClampNeg) = (10 : Int32) then some (.inl (uI g 1 3 ((g.1 1 3) + (1 : Int32)))) else some (.inr g)) else none)) else none))
theorem tb_Re_nextToken_0 {Lx : Nat}    (g : M2) {b : M2 ⊕ M2} {o : Option Value × M2} (h : b_Re_nextToken_0  g = some b) (hb : Sum.elim (fun s => Ev Lx 22 cd_22 0 [some (.ref 1)] [] s o) (fun e => Ev Lx 22 cd_22 26 [some (.ref 1)] [] e o) b) : Ev Lx 22 cd_22 0 [some (.ref 1)] [] g o := by
  unfold b_Re_nextToken_0 at h
  refine ev_rn (n := 4) (i2 := 4) (L2 := [some (.ref 1)]) (st2 := [.int (g.1 1 2), .int (g.1 1 3)]) (g2 := g) cdE_22 rfl ?_
  by_cases hc1 : (g.1 1 2) ≤ (g.1 1 3)
  · rw [if_pos hc1] at h
    refine ev_ift cdE_22 rfl (cn_t hc1) ?_
    cases h
    exact ev_wk (L := [some (.ref 1)]) hb ⟨rfl, trivial⟩
  · rw [if_neg hc1] at h
    refine ev_iff rfl (cn_f hc1) ?_
    refine ev_rn (n := 4) (i2 := 9) (L2 := [some (.ref 1)]) (st2 := [.int (g.1 1 3), .ref 2]) (g2 := g) cdE_22 rfl ?_
    by_cases hi2 : inb (g.1 1 3) 300
    · rw [if_pos hi2] at h
      refine ev_iaload (v := .int (g.1 2 (g.1 1 3).toNatClampNeg)) rfl (kd_of (show S0[2]? = some (100, 300, List.replicate 300 none) from rfl)) (by decide) hi2 rfl ?_
      refine ev_rn (n := 1) (i2 := 11) (L2 := [some (.ref 1)]) (st2 := [.int (32 : Int32), .int (g.1 2 (g.1 1 3).toNatClampNeg)]) (g2 := g) cdE_22 rfl ?_
      by_cases hc3 : (g.1 2 (g.1 1 3).toNatClampNeg) = (32 : Int32)
      · rw [if_pos hc3] at h
        refine ev_ift cdE_22 rfl (cn_t hc3) ?_
        refine ev_rn (n := 7) (i2 := 0) (L2 := [some (.ref 1)]) (st2 := []) (g2 := (uI g 1 3 ((g.1 1 3) + (1 : Int32)))) cdE_22 rfl ?_
        cases h
        exact ev_wk (L := [some (.ref 1)]) hb ⟨rfl, trivial⟩
      · rw [if_neg hc3] at h
        refine ev_iff rfl (cn_f hc3) ?_
        refine ev_rn (n := 4) (i2 := 16) (L2 := [some (.ref 1)]) (st2 := [.int (g.1 1 3), .ref 2]) (g2 := g) cdE_22 rfl ?_
        by_cases hi4 : inb (g.1 1 3) 300
        · rw [if_pos hi4] at h
          refine ev_iaload (v := .int (g.1 2 (g.1 1 3).toNatClampNeg)) rfl (kd_of (show S0[2]? = some (100, 300, List.replicate 300 none) from rfl)) (by decide) hi4 rfl ?_
          refine ev_rn (n := 1) (i2 := 18) (L2 := [some (.ref 1)]) (st2 := [.int (10 : Int32), .int (g.1 2 (g.1 1 3).toNatClampNeg)]) (g2 := g) cdE_22 rfl ?_
          by_cases hc5 : (g.1 2 (g.1 1 3).toNatClampNeg) = (10 : Int32)
          · rw [if_pos hc5] at h
            refine ev_iff rfl (cn_f (fun q => q hc5)) ?_
            refine ev_rn (n := 7) (i2 := 0) (L2 := [some (.ref 1)]) (st2 := []) (g2 := (uI g 1 3 ((g.1 1 3) + (1 : Int32)))) cdE_22 rfl ?_
            cases h
            exact ev_wk (L := [some (.ref 1)]) hb ⟨rfl, trivial⟩
          · rw [if_neg hc5] at h
            refine ev_ift cdE_22 rfl (cn_t hc5) ?_
            cases h
            exact ev_wk (L := [some (.ref 1)]) hb ⟨rfl, trivial⟩
        · rw [if_neg hi4] at h
          cases h
    · rw [if_neg hi2] at h
      cases h
def b_Re_nextToken_81   (g : M2) : Option (M2 ⊕ M2) := (if (g.1 1 2) ≤ (g.1 1 3) then some (.inr g) else (if inb (g.1 1 3) 300 then (if (f_Re_isDigit (g.1 2 (g.1 1 3).toNatClampNeg) g) = 0 then some (.inr g) else (if inb (g.1 1 3) 300 then some (.inl (uI (uI g 1 6 (f_Ma_min (1000 : Int32) ((((g.1 1 6) * (10 : Int32)) + (g.1 2 (g.1 1 3).toNatClampNeg)) - (48 : Int32)) g)) 1 3 (((uI g 1 6 (f_Ma_min (1000 : Int32) ((((g.1 1 6) * (10 : Int32)) + (g.1 2 (g.1 1 3).toNatClampNeg)) - (48 : Int32)) g)).1 1 3) + (1 : Int32)))) else none)) else none))
theorem tb_Re_nextToken_81 {Lx : Nat}    (g : M2) {b : M2 ⊕ M2} {o : Option Value × M2} (h : b_Re_nextToken_81  g = some b) (hb : Sum.elim (fun s => Ev Lx 22 cd_22 81 [some (.ref 1)] [] s o) (fun e => Ev Lx 22 cd_22 134 [] [] e o) b) : Ev Lx 22 cd_22 81 [some (.ref 1)] [] g o := by
  unfold b_Re_nextToken_81 at h
  refine ev_rn (n := 4) (i2 := 85) (L2 := [some (.ref 1)]) (st2 := [.int (g.1 1 2), .int (g.1 1 3)]) (g2 := g) cdE_22 rfl ?_
  by_cases hc14 : (g.1 1 2) ≤ (g.1 1 3)
  · rw [if_pos hc14] at h
    refine ev_ift cdE_22 rfl (cn_t hc14) ?_
    cases h
    exact ev_wk (L := []) hb trivial
  · rw [if_neg hc14] at h
    refine ev_iff rfl (cn_f hc14) ?_
    refine ev_rn (n := 4) (i2 := 90) (L2 := [some (.ref 1)]) (st2 := [.int (g.1 1 3), .ref 2]) (g2 := g) cdE_22 rfl ?_
    by_cases hi15 : inb (g.1 1 3) 300
    · rw [if_pos hi15] at h
      refine ev_iaload (v := .int (g.1 2 (g.1 1 3).toNatClampNeg)) rfl (kd_of (show S0[2]? = some (100, 300, List.replicate 300 none) from rfl)) (by decide) hi15 rfl ?_
      refine ev_call rfl cdE_20 rfl rfl rfl (e_Re_isDigit (g.1 2 (g.1 1 3).toNatClampNeg)  g rfl) ?_
      by_cases hc16 : (f_Re_isDigit (g.1 2 (g.1 1 3).toNatClampNeg) g) = 0
      · rw [if_pos hc16] at h
        refine ev_zft cdE_22 rfl (cn_t hc16) ?_
        cases h
        exact ev_wk (L := []) hb trivial
      · rw [if_neg hc16] at h
        refine ev_zff rfl (cn_f hc16) ?_
        refine ev_rn (n := 10) (i2 := 103) (L2 := [some (.ref 1)]) (st2 := [.int (g.1 1 3), .ref 2, .int ((g.1 1 6) * (10 : Int32)), .int (1000 : Int32), .ref 1]) (g2 := g) cdE_22 rfl ?_
        by_cases hi17 : inb (g.1 1 3) 300
        · rw [if_pos hi17] at h
          refine ev_iaload (v := .int (g.1 2 (g.1 1 3).toNatClampNeg)) rfl (kd_of (show S0[2]? = some (100, 300, List.replicate 300 none) from rfl)) (by decide) hi17 rfl ?_
          refine ev_rn (n := 3) (i2 := 107) (L2 := [some (.ref 1)]) (st2 := [.int ((((g.1 1 6) * (10 : Int32)) + (g.1 2 (g.1 1 3).toNatClampNeg)) - (48 : Int32)), .int (1000 : Int32), .ref 1]) (g2 := g) cdE_22 rfl ?_
          refine ev_call rfl cdE_21 rfl rfl rfl (e_Ma_min (1000 : Int32) ((((g.1 1 6) * (10 : Int32)) + (g.1 2 (g.1 1 3).toNatClampNeg)) - (48 : Int32))  g rfl) ?_
          refine ev_rn (n := 8) (i2 := 81) (L2 := [some (.ref 1)]) (st2 := []) (g2 := (uI (uI g 1 6 (f_Ma_min (1000 : Int32) ((((g.1 1 6) * (10 : Int32)) + (g.1 2 (g.1 1 3).toNatClampNeg)) - (48 : Int32)) g)) 1 3 (((uI g 1 6 (f_Ma_min (1000 : Int32) ((((g.1 1 6) * (10 : Int32)) + (g.1 2 (g.1 1 3).toNatClampNeg)) - (48 : Int32)) g)).1 1 3) + (1 : Int32)))) cdE_22 rfl ?_
          cases h
          exact ev_wk (L := [some (.ref 1)]) hb ⟨rfl, trivial⟩
        · rw [if_neg hi17] at h
          cases h
    · rw [if_neg hi15] at h
      cases h
def b_Re_nextToken_52   (g : M2) : Option (M2 ⊕ M2) := (if (g.1 1 2) ≤ (g.1 1 3) then some (.inr g) else (if inb (g.1 1 3) 300 then (if (f_Re_isLetter (g.1 2 (g.1 1 3).toNatClampNeg) g) = 0 then some (.inr g) else some (.inl (uI g 1 3 ((g.1 1 3) + (1 : Int32))))) else none))
theorem tb_Re_nextToken_52 {Lx : Nat}    (g : M2) {b : M2 ⊕ M2} {o : Option Value × M2} (h : b_Re_nextToken_52  g = some b) (hb : Sum.elim (fun s => Ev Lx 22 cd_22 52 [some (.ref 1)] [] s o) (fun e => Ev Lx 22 cd_22 134 [] [] e o) b) : Ev Lx 22 cd_22 52 [some (.ref 1)] [] g o := by
  unfold b_Re_nextToken_52 at h
  refine ev_rn (n := 4) (i2 := 56) (L2 := [some (.ref 1)]) (st2 := [.int (g.1 1 2), .int (g.1 1 3)]) (g2 := g) cdE_22 rfl ?_
  by_cases hc20 : (g.1 1 2) ≤ (g.1 1 3)
  · rw [if_pos hc20] at h
    refine ev_ift cdE_22 rfl (cn_t hc20) ?_
    cases h
    exact ev_wk (L := []) hb trivial
  · rw [if_neg hc20] at h
    refine ev_iff rfl (cn_f hc20) ?_
    refine ev_rn (n := 4) (i2 := 61) (L2 := [some (.ref 1)]) (st2 := [.int (g.1 1 3), .ref 2]) (g2 := g) cdE_22 rfl ?_
    by_cases hi21 : inb (g.1 1 3) 300
    · rw [if_pos hi21] at h
      refine ev_iaload (v := .int (g.1 2 (g.1 1 3).toNatClampNeg)) rfl (kd_of (show S0[2]? = some (100, 300, List.replicate 300 none) from rfl)) (by decide) hi21 rfl ?_
      refine ev_call rfl cdE_19 rfl rfl rfl (e_Re_isLetter (g.1 2 (g.1 1 3).toNatClampNeg)  g rfl) ?_
      by_cases hc22 : (f_Re_isLetter (g.1 2 (g.1 1 3).toNatClampNeg) g) = 0
      · rw [if_pos hc22] at h
        refine ev_zft cdE_22 rfl (cn_t hc22) ?_
        cases h
        exact ev_wk (L := []) hb trivial
      · rw [if_neg hc22] at h
        refine ev_zff rfl (cn_f hc22) ?_
        refine ev_rn (n := 7) (i2 := 52) (L2 := [some (.ref 1)]) (st2 := []) (g2 := (uI g 1 3 ((g.1 1 3) + (1 : Int32)))) cdE_22 rfl ?_
        cases h
        exact ev_wk (L := [some (.ref 1)]) hb ⟨rfl, trivial⟩
    · rw [if_neg hi21] at h
      cases h
def j_Re_nextToken_26  (g : M2) : Option (M2) := (if ((uI (uI g 1 4 (g.1 1 3)) 1 6 (0 : Int32)).1 1 3) < ((uI (uI g 1 4 (g.1 1 3)) 1 6 (0 : Int32)).1 1 2) then (if inb ((uI (uI g 1 4 (g.1 1 3)) 1 6 (0 : Int32)).1 1 3) 300 then (if (f_Re_isLetter ((uI (uI g 1 4 (g.1 1 3)) 1 6 (0 : Int32)).1 2 ((uI (uI g 1 4 (g.1 1 3)) 1 6 (0 : Int32)).1 1 3).toNatClampNeg) (uI (uI g 1 4 (g.1 1 3)) 1 6 (0 : Int32))) = 0 then (if inb ((uI (uI g 1 4 (g.1 1 3)) 1 6 (0 : Int32)).1 1 3) 300 then (if (f_Re_isDigit ((uI (uI g 1 4 (g.1 1 3)) 1 6 (0 : Int32)).1 2 ((uI (uI g 1 4 (g.1 1 3)) 1 6 (0 : Int32)).1 1 3).toNatClampNeg) (uI (uI g 1 4 (g.1 1 3)) 1 6 (0 : Int32))) = 0 then (if inb ((uI (uI g 1 4 (g.1 1 3)) 1 6 (0 : Int32)).1 1 3) 300 then (if ((uI (uI g 1 4 (g.1 1 3)) 1 6 (0 : Int32)).1 2 ((uI (uI g 1 4 (g.1 1 3)) 1 6 (0 : Int32)).1 1 3).toNatClampNeg) = (59 : Int32) then some (uI (uI (uI (uI g 1 4 (g.1 1 3)) 1 6 (0 : Int32)) 1 5 (3 : Int32)) 1 3 (((uI (uI (uI g 1 4 (g.1 1 3)) 1 6 (0 : Int32)) 1 5 (3 : Int32)).1 1 3) + (1 : Int32))) else some (uI (uI (uI (uI g 1 4 (g.1 1 3)) 1 6 (0 : Int32)) 1 5 (4 : Int32)) 1 3 (((uI (uI (uI g 1 4 (g.1 1 3)) 1 6 (0 : Int32)) 1 5 (4 : Int32)).1 1 3) + (1 : Int32)))) else none) else ((lp (fun s => b_Re_nextToken_81   s) 5000 (uI (uI (uI g 1 4 (g.1 1 3)) 1 6 (0 : Int32)) 1 5 (2 : Int32))).bind fun e18 => some e18)) else none) else ((lp (fun s => b_Re_nextToken_52   s) 5000 (uI (uI (uI g 1 4 (g.1 1 3)) 1 6 (0 : Int32)) 1 5 (1 : Int32))).bind fun e23 => some e23)) else none) else some (uI (uI (uI g 1 4 (g.1 1 3)) 1 6 (0 : Int32)) 1 5 (0 : Int32)))
theorem tj_Re_nextToken_26 {Lx : Nat}    (g : M2) {b : M2} (h : j_Re_nextToken_26  g = some b) : Ev Lx 22 cd_22 26 [some (.ref 1)] [] g (none, b) := by
  unfold j_Re_nextToken_26 at h
  refine ev_rn (n := 11) (i2 := 37) (L2 := [some (.ref 1)]) (st2 := [.int ((uI (uI g 1 4 (g.1 1 3)) 1 6 (0 : Int32)).1 1 2), .int ((uI (uI g 1 4 (g.1 1 3)) 1 6 (0 : Int32)).1 1 3)]) (g2 := (uI (uI g 1 4 (g.1 1 3)) 1 6 (0 : Int32))) cdE_22 rfl ?_
  by_cases hc7 : ((uI (uI g 1 4 (g.1 1 3)) 1 6 (0 : Int32)).1 1 3) < ((uI (uI g 1 4 (g.1 1 3)) 1 6 (0 : Int32)).1 1 2)
  · rw [if_pos hc7] at h
    refine ev_ift cdE_22 rfl (cn_t hc7) ?_
    refine ev_rn (n := 4) (i2 := 46) (L2 := [some (.ref 1)]) (st2 := [.int ((uI (uI g 1 4 (g.1 1 3)) 1 6 (0 : Int32)).1 1 3), .ref 2]) (g2 := (uI (uI g 1 4 (g.1 1 3)) 1 6 (0 : Int32))) cdE_22 rfl ?_
    by_cases hi8 : inb ((uI (uI g 1 4 (g.1 1 3)) 1 6 (0 : Int32)).1 1 3) 300
    · rw [if_pos hi8] at h
      refine ev_iaload (v := .int ((uI (uI g 1 4 (g.1 1 3)) 1 6 (0 : Int32)).1 2 ((uI (uI g 1 4 (g.1 1 3)) 1 6 (0 : Int32)).1 1 3).toNatClampNeg)) rfl (kd_of (show S0[2]? = some (100, 300, List.replicate 300 none) from rfl)) (by decide) hi8 rfl ?_
      refine ev_call rfl cdE_19 rfl rfl rfl (e_Re_isLetter ((uI (uI g 1 4 (g.1 1 3)) 1 6 (0 : Int32)).1 2 ((uI (uI g 1 4 (g.1 1 3)) 1 6 (0 : Int32)).1 1 3).toNatClampNeg)  (uI (uI g 1 4 (g.1 1 3)) 1 6 (0 : Int32)) rfl) ?_
      by_cases hc9 : (f_Re_isLetter ((uI (uI g 1 4 (g.1 1 3)) 1 6 (0 : Int32)).1 2 ((uI (uI g 1 4 (g.1 1 3)) 1 6 (0 : Int32)).1 1 3).toNatClampNeg) (uI (uI g 1 4 (g.1 1 3)) 1 6 (0 : Int32))) = 0
      · rw [if_pos hc9] at h
        refine ev_zft cdE_22 rfl (cn_t hc9) ?_
        refine ev_rn (n := 4) (i2 := 75) (L2 := [some (.ref 1)]) (st2 := [.int ((uI (uI g 1 4 (g.1 1 3)) 1 6 (0 : Int32)).1 1 3), .ref 2]) (g2 := (uI (uI g 1 4 (g.1 1 3)) 1 6 (0 : Int32))) cdE_22 rfl ?_
        by_cases hi10 : inb ((uI (uI g 1 4 (g.1 1 3)) 1 6 (0 : Int32)).1 1 3) 300
        · rw [if_pos hi10] at h
          refine ev_iaload (v := .int ((uI (uI g 1 4 (g.1 1 3)) 1 6 (0 : Int32)).1 2 ((uI (uI g 1 4 (g.1 1 3)) 1 6 (0 : Int32)).1 1 3).toNatClampNeg)) rfl (kd_of (show S0[2]? = some (100, 300, List.replicate 300 none) from rfl)) (by decide) hi10 rfl ?_
          refine ev_call rfl cdE_20 rfl rfl rfl (e_Re_isDigit ((uI (uI g 1 4 (g.1 1 3)) 1 6 (0 : Int32)).1 2 ((uI (uI g 1 4 (g.1 1 3)) 1 6 (0 : Int32)).1 1 3).toNatClampNeg)  (uI (uI g 1 4 (g.1 1 3)) 1 6 (0 : Int32)) rfl) ?_
          by_cases hc11 : (f_Re_isDigit ((uI (uI g 1 4 (g.1 1 3)) 1 6 (0 : Int32)).1 2 ((uI (uI g 1 4 (g.1 1 3)) 1 6 (0 : Int32)).1 1 3).toNatClampNeg) (uI (uI g 1 4 (g.1 1 3)) 1 6 (0 : Int32))) = 0
          · rw [if_pos hc11] at h
            refine ev_zft cdE_22 rfl (cn_t hc11) ?_
            refine ev_rn (n := 5) (i2 := 121) (L2 := [some (.ref 1)]) (st2 := [.int ((uI (uI g 1 4 (g.1 1 3)) 1 6 (0 : Int32)).1 1 3), .ref 2, .ref 1]) (g2 := (uI (uI g 1 4 (g.1 1 3)) 1 6 (0 : Int32))) cdE_22 rfl ?_
            by_cases hi12 : inb ((uI (uI g 1 4 (g.1 1 3)) 1 6 (0 : Int32)).1 1 3) 300
            · rw [if_pos hi12] at h
              refine ev_iaload (v := .int ((uI (uI g 1 4 (g.1 1 3)) 1 6 (0 : Int32)).1 2 ((uI (uI g 1 4 (g.1 1 3)) 1 6 (0 : Int32)).1 1 3).toNatClampNeg)) rfl (kd_of (show S0[2]? = some (100, 300, List.replicate 300 none) from rfl)) (by decide) hi12 rfl ?_
              refine ev_rn (n := 1) (i2 := 123) (L2 := [some (.ref 1)]) (st2 := [.int (59 : Int32), .int ((uI (uI g 1 4 (g.1 1 3)) 1 6 (0 : Int32)).1 2 ((uI (uI g 1 4 (g.1 1 3)) 1 6 (0 : Int32)).1 1 3).toNatClampNeg), .ref 1]) (g2 := (uI (uI g 1 4 (g.1 1 3)) 1 6 (0 : Int32))) cdE_22 rfl ?_
              by_cases hc13 : ((uI (uI g 1 4 (g.1 1 3)) 1 6 (0 : Int32)).1 2 ((uI (uI g 1 4 (g.1 1 3)) 1 6 (0 : Int32)).1 1 3).toNatClampNeg) = (59 : Int32)
              · rw [if_pos hc13] at h
                refine ev_iff rfl (cn_f (fun q => q hc13)) ?_
                refine ev_rn (n := 9) (i2 := 134) (L2 := [some (.ref 1)]) (st2 := []) (g2 := (uI (uI (uI (uI g 1 4 (g.1 1 3)) 1 6 (0 : Int32)) 1 5 (3 : Int32)) 1 3 (((uI (uI (uI g 1 4 (g.1 1 3)) 1 6 (0 : Int32)) 1 5 (3 : Int32)).1 1 3) + (1 : Int32)))) cdE_22 rfl ?_
                cases h
                exact ev_ret rfl rfl
              · rw [if_neg hc13] at h
                refine ev_ift cdE_22 rfl (cn_t hc13) ?_
                refine ev_rn (n := 8) (i2 := 134) (L2 := [some (.ref 1)]) (st2 := []) (g2 := (uI (uI (uI (uI g 1 4 (g.1 1 3)) 1 6 (0 : Int32)) 1 5 (4 : Int32)) 1 3 (((uI (uI (uI g 1 4 (g.1 1 3)) 1 6 (0 : Int32)) 1 5 (4 : Int32)).1 1 3) + (1 : Int32)))) cdE_22 rfl ?_
                cases h
                exact ev_ret rfl rfl
            · rw [if_neg hi12] at h
              cases h
          · rw [if_neg hc11] at h
            refine ev_zff rfl (cn_f hc11) ?_
            refine ev_rn (n := 3) (i2 := 81) (L2 := [some (.ref 1)]) (st2 := []) (g2 := (uI (uI (uI g 1 4 (g.1 1 3)) 1 6 (0 : Int32)) 1 5 (2 : Int32))) cdE_22 rfl ?_
            obtain ⟨e18, he18, h⟩ := Option.bind_eq_some_iff.mp h
            have hX19 : Ev Lx 22 cd_22 134 [] [] e18 (none, b) := by
              cases h
              exact ev_ret rfl rfl
            exact ev_wk (L := [some (.ref 1)]) (lp_ind (P := (fun (s : M2) => Ev Lx 22 cd_22 81 [some (.ref 1)] [] s (none, b))) (fun s s2 hs hP => tb_Re_nextToken_81    s (b := .inl s2) hs hP) (fun s hs => tb_Re_nextToken_81    s (b := .inr e18) hs hX19) _ _ he18) ⟨rfl, trivial⟩
        · rw [if_neg hi10] at h
          cases h
      · rw [if_neg hc9] at h
        refine ev_zff rfl (cn_f hc9) ?_
        refine ev_rn (n := 3) (i2 := 52) (L2 := [some (.ref 1)]) (st2 := []) (g2 := (uI (uI (uI g 1 4 (g.1 1 3)) 1 6 (0 : Int32)) 1 5 (1 : Int32))) cdE_22 rfl ?_
        obtain ⟨e23, he23, h⟩ := Option.bind_eq_some_iff.mp h
        have hX24 : Ev Lx 22 cd_22 134 [] [] e23 (none, b) := by
          cases h
          exact ev_ret rfl rfl
        exact ev_wk (L := [some (.ref 1)]) (lp_ind (P := (fun (s : M2) => Ev Lx 22 cd_22 52 [some (.ref 1)] [] s (none, b))) (fun s s2 hs hP => tb_Re_nextToken_52    s (b := .inl s2) hs hP) (fun s hs => tb_Re_nextToken_52    s (b := .inr e23) hs hX24) _ _ he23) ⟨rfl, trivial⟩
    · rw [if_neg hi8] at h
      cases h
  · rw [if_neg hc7] at h
    refine ev_iff rfl (cn_f hc7) ?_
    refine ev_rn (n := 4) (i2 := 134) (L2 := [some (.ref 1)]) (st2 := []) (g2 := (uI (uI (uI g 1 4 (g.1 1 3)) 1 6 (0 : Int32)) 1 5 (0 : Int32))) cdE_22 rfl ?_
    cases h
    exact ev_ret rfl rfl
def f_Re_nextToken  (g : M2) : Option (M2) := ((lp (fun s => b_Re_nextToken_0   s) 5000 g).bind fun e6 => (j_Re_nextToken_26  e6))
theorem e_Re_nextToken {Lx : Nat}   (g : M2) {b : M2} (h : f_Re_nextToken  g = some b) : Ev Lx 22 cd_22 0 [some (.ref 1)] [] g (none, b) := by
  unfold f_Re_nextToken at h
  obtain ⟨e6, he6, h⟩ := Option.bind_eq_some_iff.mp h
  have hX25 : Ev Lx 22 cd_22 26 [some (.ref 1)] [] e6 (none, b) := by
    exact ev_wk (L := [some (.ref 1)]) (tj_Re_nextToken_26    e6 h) ⟨rfl, trivial⟩
  exact ev_wk (L := [some (.ref 1)]) (lp_ind (P := (fun (s : M2) => Ev Lx 22 cd_22 0 [some (.ref 1)] [] s (none, b))) (fun s s2 hs hP => tb_Re_nextToken_0    s (b := .inl s2) hs hP) (fun s hs => tb_Re_nextToken_0    s (b := .inr e6) hs hX25) _ _ he6) ⟨rfl, trivial⟩
def b_Re_isWord_17 (v1 : Nat) (v2 : Int32) (g : M2) : Option (Int32 ⊕ (Unit ⊕ Int32)) := (if (g.1 1 3) ≤ v2 then some (.inr (.inl ())) else (if inb v2 300 then (if inb (v2 - (g.1 1 4)) (mm_tx v1).length then (if (g.1 2 v2.toNatClampNeg) = (nI ((mm_tx v1).getD (v2 - (g.1 1 4)).toNatClampNeg 0)) then some (.inl (v2 + (1 : Int32))) else some (.inr (.inr (0 : Int32)))) else none) else none))
theorem tb_Re_isWord_17 {Lx : Nat} (v1 : Nat) (hv1 : IsStr v1) (v2 : Int32) (g : M2) {b : Int32 ⊕ (Unit ⊕ Int32)} {o : Option Value × M2} (h : b_Re_isWord_17 v1 v2 g = some b) (hb : Sum.elim (fun s => Ev Lx 23 cd_23 17 [some (.ref 1), some (.ref v1), some (.int s)] [] g o) (Sum.elim (fun e => Ev Lx 23 cd_23 36 [] [] g o) (fun r => o = (some (.int r), g))) b) : Ev Lx 23 cd_23 17 [some (.ref 1), some (.ref v1), some (.int v2)] [] g o := by
  unfold b_Re_isWord_17 at h
  refine ev_rn (n := 3) (i2 := 20) (L2 := [some (.ref 1), some (.ref v1), some (.int v2)]) (st2 := [.int (g.1 1 3), .int v2]) (g2 := g) cdE_23 rfl ?_
  by_cases hc3 : (g.1 1 3) ≤ v2
  · rw [if_pos hc3] at h
    refine ev_ift cdE_23 rfl (cn_t hc3) ?_
    cases h
    exact ev_wk (L := []) hb trivial
  · rw [if_neg hc3] at h
    refine ev_iff rfl (cn_f hc3) ?_
    refine ev_rn (n := 3) (i2 := 24) (L2 := [some (.ref 1), some (.ref v1), some (.int v2)]) (st2 := [.int v2, .ref 2]) (g2 := g) cdE_23 rfl ?_
    by_cases hi4 : inb v2 300
    · rw [if_pos hi4] at h
      refine ev_iaload (v := .int (g.1 2 v2.toNatClampNeg)) rfl (kd_of (show S0[2]? = some (100, 300, List.replicate 300 none) from rfl)) (by decide) hi4 rfl ?_
      refine ev_rn (n := 5) (i2 := 30) (L2 := [some (.ref 1), some (.ref v1), some (.int v2)]) (st2 := [.int (v2 - (g.1 1 4)), .ref v1, .int (g.1 2 v2.toNatClampNeg)]) (g2 := g) cdE_23 rfl ?_
      by_cases hs5 : inb (v2 - (g.1 1 4)) (mm_tx v1).length
      · rw [if_pos hs5] at h
        refine ev_sc rfl hv1 hs5 ?_
        by_cases hc6 : (g.1 2 v2.toNatClampNeg) = (nI ((mm_tx v1).getD (v2 - (g.1 1 4)).toNatClampNeg 0))
        · rw [if_pos hc6] at h
          refine ev_ift cdE_23 rfl (cn_t hc6) ?_
          refine ev_rn (n := 2) (i2 := 17) (L2 := [some (.ref 1), some (.ref v1), some (.int (v2 + (1 : Int32)))]) (st2 := []) (g2 := g) cdE_23 rfl ?_
          cases h
          exact ev_wk (L := [some (.ref 1), some (.ref v1), some (.int (v2 + (1 : Int32)))]) hb ⟨rfl, ⟨rfl, ⟨rfl, trivial⟩⟩⟩
        · rw [if_neg hc6] at h
          refine ev_iff rfl (cn_f hc6) ?_
          refine ev_rn (n := 1) (i2 := 33) (L2 := [some (.ref 1), some (.ref v1), some (.int v2)]) (st2 := [.int (0 : Int32)]) (g2 := g) cdE_23 rfl ?_
          cases h
          cases hb
          exact ev_ret rfl rt_0
      · rw [if_neg hs5] at h
        cases h
    · rw [if_neg hi4] at h
      cases h
def f_Re_isWord (p0 : Nat) (g : M2) : Option (Int32) := (if (g.1 1 5) = (1 : Int32) then (if ((g.1 1 3) - (g.1 1 4)) = (nI (mm_tx p0).length) then ((lp (fun s => b_Re_isWord_17 p0 s g) 5000 (g.1 1 4)).bind fun ue7 => Sum.elim (fun e7 => some (1 : Int32)) (fun b => some re7) ue7) else some (0 : Int32)) else some (0 : Int32))
theorem e_Re_isWord {Lx : Nat} (p0 : Nat) (hp0 : IsStr p0) (g : M2) {b : Int32} (h : f_Re_isWord p0 g = some b) : Ev Lx 23 cd_23 0 [some (.ref 1), some (.ref p0)] [] g (some (.int b), g) := by
  unfold f_Re_isWord at h
  refine ev_rn (n := 3) (i2 := 3) (L2 := [some (.ref 1), some (.ref p0)]) (st2 := [.int (1 : Int32), .int (g.1 1 5)]) (g2 := g) cdE_23 rfl ?_
  by_cases hc1 : (g.1 1 5) = (1 : Int32)
  · rw [if_pos hc1] at h
    refine ev_iff rfl (cn_f (fun q => q hc1)) ?_
    refine ev_rn (n := 6) (i2 := 10) (L2 := [some (.ref 1), some (.ref p0)]) (st2 := [.ref p0, .int ((g.1 1 3) - (g.1 1 4))]) (g2 := g) cdE_23 rfl ?_
    refine ev_sl rfl hp0 ?_
    by_cases hc2 : ((g.1 1 3) - (g.1 1 4)) = (nI (mm_tx p0).length)
    · rw [if_pos hc2] at h
      refine ev_ift cdE_23 rfl (cn_t hc2) ?_
      refine ev_rn (n := 3) (i2 := 17) (L2 := [some (.ref 1), some (.ref p0), some (.int (g.1 1 4))]) (st2 := []) (g2 := g) cdE_23 rfl ?_
      obtain ⟨ue7, he7, h⟩ := Option.bind_eq_some_iff.mp h
      cases ue7 with
      | inl e7 =>
        replace h := h
        have hX8 : Ev Lx 23 cd_23 36 [] [] g (some (.int b), g) := by
          simp only [Sum.elim_inl] at h
          refine ev_rn (n := 1) (i2 := 37) (L2 := []) (st2 := [.int (1 : Int32)]) (g2 := g) cdE_23 rfl ?_
          cases h
          exact ev_ret rfl rt_1
        exact ev_wk (L := [some (.ref 1), some (.ref p0), some (.int (g.1 1 4))]) (lp_ind (P := (fun (s : Int32) => Ev Lx 23 cd_23 17 [some (.ref 1), some (.ref p0), some (.int s)] [] g (some (.int b), g))) (fun s s2 hs hP => tb_Re_isWord_17 p0 hp0 s g (b := .inl s2) hs hP) (fun s hs => tb_Re_isWord_17 p0 hp0 s g (b := .inr (.inl e7)) hs hX8) _ _ he7) ⟨rfl, ⟨rfl, ⟨rfl, trivial⟩⟩⟩
      | inr re7 =>
        simp only [Sum.elim_inr] at h
        cases h
        exact ev_wk (L := [some (.ref 1), some (.ref p0), some (.int (g.1 1 4))]) (lp_ind (P := (fun (s : Int32) => Ev Lx 23 cd_23 17 [some (.ref 1), some (.ref p0), some (.int s)] [] g (some (.int b), g))) (fun s s2 hs hP => tb_Re_isWord_17 p0 hp0 s g (b := .inl s2) hs hP) (fun s hs => tb_Re_isWord_17 p0 hp0 s g (b := .inr (.inr b)) hs rfl) _ _ he7) ⟨rfl, ⟨rfl, ⟨rfl, trivial⟩⟩⟩
    · rw [if_neg hc2] at h
      refine ev_iff rfl (cn_f hc2) ?_
      refine ev_rn (n := 1) (i2 := 13) (L2 := [some (.ref 1), some (.ref p0)]) (st2 := [.int (0 : Int32)]) (g2 := g) cdE_23 rfl ?_
      cases h
      exact ev_ret rfl rt_0
  · rw [if_neg hc1] at h
    refine ev_ift cdE_23 rfl (cn_t hc1) ?_
    refine ev_rn (n := 1) (i2 := 13) (L2 := [some (.ref 1), some (.ref p0)]) (st2 := [.int (0 : Int32)]) (g2 := g) cdE_23 rfl ?_
    cases h
    exact ev_ret rfl rt_0
def f_Re_blame (p0 : Int32) (g : M2) : M2 := (if (g.1 1 7) = 0 then (uI (uI g 1 7 p0) 1 8 ((uI g 1 7 p0).1 1 4)) else g)
theorem e_Re_blame {Lx : Nat} (p0 : Int32)  (g : M2) {b : M2} (h : f_Re_blame p0 g = b) : Ev Lx 24 cd_24 0 [some (.ref 1), some (.int p0)] [] g (none, b) := by
  unfold f_Re_blame at h
  refine ev_rn (n := 2) (i2 := 2) (L2 := [some (.ref 1), some (.int p0)]) (st2 := [.int (g.1 1 7)]) (g2 := g) cdE_24 rfl ?_
  by_cases hc1 : (g.1 1 7) = 0
  · rw [if_pos hc1] at h
    refine ev_zff rfl (cn_f (fun q => q hc1)) ?_
    refine ev_rn (n := 7) (i2 := 10) (L2 := [some (.ref 1), some (.int p0)]) (st2 := []) (g2 := (uI (uI g 1 7 p0) 1 8 ((uI g 1 7 p0).1 1 4))) cdE_24 rfl ?_
    subst h
    exact ev_ret rfl rfl
  · rw [if_neg hc1] at h
    refine ev_zft cdE_24 rfl (cn_t hc1) ?_
    subst h
    exact ev_ret rfl rfl
def f_Re_expectWord (p0 : Nat) (g : M2) : Option (M2) := ((f_Re_isWord p0 g).bind fun q1 => (if q1 = 0 then ((f_Re_nextToken (f_Re_blame (1 : Int32) g)).bind fun q4 => some q4) else ((f_Re_nextToken g).bind fun q3 => some q3)))
theorem e_Re_expectWord {Lx : Nat} (p0 : Nat) (hp0 : IsStr p0) (g : M2) {b : M2} (h : f_Re_expectWord p0 g = some b) : Ev Lx 25 cd_25 0 [some (.ref 1), some (.ref p0)] [] g (none, b) := by
  unfold f_Re_expectWord at h
  refine ev_rn (n := 2) (i2 := 2) (L2 := [some (.ref 1), some (.ref p0)]) (st2 := [.ref p0, .ref 1]) (g2 := g) cdE_25 rfl ?_
  obtain ⟨q1, hq1, h⟩ := Option.bind_eq_some_iff.mp h
  refine ev_call rfl cdE_23 rfl rfl rfl (e_Re_isWord p0 hp0 g hq1) ?_
  by_cases hc2 : q1 = 0
  · rw [if_pos hc2] at h
    refine ev_zff rfl (cn_f (fun q => q hc2)) ?_
    refine ev_rn (n := 2) (i2 := 6) (L2 := [some (.ref 1), some (.ref p0)]) (st2 := [.int (1 : Int32), .ref 1]) (g2 := g) cdE_25 rfl ?_
    refine ev_call rfl cdE_24 rfl rfl rfl (e_Re_blame (1 : Int32)  g rfl) ?_
    refine ev_rn (n := 1) (i2 := 8) (L2 := [some (.ref 1), some (.ref p0)]) (st2 := [.ref 1]) (g2 := (f_Re_blame (1 : Int32) g)) cdE_25 rfl ?_
    obtain ⟨q4, hq4, h⟩ := Option.bind_eq_some_iff.mp h
    refine ev_call rfl cdE_22 rfl rfl rfl (e_Re_nextToken   (f_Re_blame (1 : Int32) g) hq4) ?_
    cases h
    exact ev_ret rfl rfl
  · rw [if_neg hc2] at h
    refine ev_zft cdE_25 rfl (cn_t hc2) ?_
    refine ev_rn (n := 1) (i2 := 8) (L2 := [some (.ref 1), some (.ref p0)]) (st2 := [.ref 1]) (g2 := g) cdE_25 rfl ?_
    obtain ⟨q3, hq3, h⟩ := Option.bind_eq_some_iff.mp h
    refine ev_call rfl cdE_22 rfl rfl rfl (e_Re_nextToken   g hq3) ?_
    cases h
    exact ev_ret rfl rfl
def f_Re_expectNumber (p0 : Int32) (p1 : Int32) (g : M2) : Int32 × M2 := (if (g.1 1 5) = (2 : Int32) then (if (g.1 1 6) < p0 then (if ((f_Re_blame (2 : Int32) g).1 1 7) = 0 then ((1 : Int32), (f_Re_blame (2 : Int32) g)) else ((0 : Int32), (f_Re_blame (2 : Int32) g))) else (if (g.1 1 6) ≤ p1 then (if (g.1 1 7) = 0 then ((1 : Int32), g) else ((0 : Int32), g)) else (if ((f_Re_blame (2 : Int32) g).1 1 7) = 0 then ((1 : Int32), (f_Re_blame (2 : Int32) g)) else ((0 : Int32), (f_Re_blame (2 : Int32) g))))) else (if ((f_Re_blame (1 : Int32) g).1 1 7) = 0 then ((1 : Int32), (f_Re_blame (1 : Int32) g)) else ((0 : Int32), (f_Re_blame (1 : Int32) g))))
theorem e_Re_expectNumber {Lx : Nat} (p0 : Int32) (p1 : Int32)  (g : M2) {b : (Int32 × M2)} (h : f_Re_expectNumber p0 p1 g = b) : Ev Lx 26 cd_26 0 [some (.ref 1), some (.int p0), some (.int p1)] [] g (some (.int b.1), b.2) := by
  unfold f_Re_expectNumber at h
  refine ev_rn (n := 3) (i2 := 3) (L2 := [some (.ref 1), some (.int p0), some (.int p1)]) (st2 := [.int (2 : Int32), .int (g.1 1 5)]) (g2 := g) cdE_26 rfl ?_
  by_cases hc1 : (g.1 1 5) = (2 : Int32)
  · rw [if_pos hc1] at h
    refine ev_ift cdE_26 rfl (cn_t hc1) ?_
    refine ev_rn (n := 3) (i2 := 11) (L2 := [some (.ref 1), some (.int p0), some (.int p1)]) (st2 := [.int p0, .int (g.1 1 6)]) (g2 := g) cdE_26 rfl ?_
    by_cases hc2 : (g.1 1 6) < p0
    · rw [if_pos hc2] at h
      refine ev_ift cdE_26 rfl (cn_t hc2) ?_
      refine ev_rn (n := 2) (i2 := 18) (L2 := [some (.ref 1), some (.int p0), some (.int p1)]) (st2 := [.int (2 : Int32), .ref 1]) (g2 := g) cdE_26 rfl ?_
      refine ev_call rfl cdE_24 rfl rfl rfl (e_Re_blame (2 : Int32)  g rfl) ?_
      refine ev_rn (n := 2) (i2 := 21) (L2 := [some (.ref 1), some (.int p0), some (.int p1)]) (st2 := [.int ((f_Re_blame (2 : Int32) g).1 1 7)]) (g2 := (f_Re_blame (2 : Int32) g)) cdE_26 rfl ?_
      by_cases hc3 : ((f_Re_blame (2 : Int32) g).1 1 7) = 0
      · rw [if_pos hc3] at h
        refine ev_zff rfl (cn_f (fun q => q hc3)) ?_
        refine ev_rn (n := 2) (i2 := 25) (L2 := [some (.ref 1), some (.int p0), some (.int p1)]) (st2 := [.int (1 : Int32)]) (g2 := (f_Re_blame (2 : Int32) g)) cdE_26 rfl ?_
        subst h
        exact ev_ret rfl rt_1
      · rw [if_neg hc3] at h
        refine ev_zft cdE_26 rfl (cn_t hc3) ?_
        refine ev_rn (n := 1) (i2 := 25) (L2 := [some (.ref 1), some (.int p0), some (.int p1)]) (st2 := [.int (0 : Int32)]) (g2 := (f_Re_blame (2 : Int32) g)) cdE_26 rfl ?_
        subst h
        exact ev_ret rfl rt_0
    · rw [if_neg hc2] at h
      refine ev_iff rfl (cn_f hc2) ?_
      refine ev_rn (n := 3) (i2 := 15) (L2 := [some (.ref 1), some (.int p0), some (.int p1)]) (st2 := [.int p1, .int (g.1 1 6)]) (g2 := g) cdE_26 rfl ?_
      by_cases hc4 : (g.1 1 6) ≤ p1
      · rw [if_pos hc4] at h
        refine ev_ift cdE_26 rfl (cn_t hc4) ?_
        refine ev_rn (n := 2) (i2 := 21) (L2 := [some (.ref 1), some (.int p0), some (.int p1)]) (st2 := [.int (g.1 1 7)]) (g2 := g) cdE_26 rfl ?_
        by_cases hc5 : (g.1 1 7) = 0
        · rw [if_pos hc5] at h
          refine ev_zff rfl (cn_f (fun q => q hc5)) ?_
          refine ev_rn (n := 2) (i2 := 25) (L2 := [some (.ref 1), some (.int p0), some (.int p1)]) (st2 := [.int (1 : Int32)]) (g2 := g) cdE_26 rfl ?_
          subst h
          exact ev_ret rfl rt_1
        · rw [if_neg hc5] at h
          refine ev_zft cdE_26 rfl (cn_t hc5) ?_
          refine ev_rn (n := 1) (i2 := 25) (L2 := [some (.ref 1), some (.int p0), some (.int p1)]) (st2 := [.int (0 : Int32)]) (g2 := g) cdE_26 rfl ?_
          subst h
          exact ev_ret rfl rt_0
      · rw [if_neg hc4] at h
        refine ev_iff rfl (cn_f hc4) ?_
        refine ev_rn (n := 2) (i2 := 18) (L2 := [some (.ref 1), some (.int p0), some (.int p1)]) (st2 := [.int (2 : Int32), .ref 1]) (g2 := g) cdE_26 rfl ?_
        refine ev_call rfl cdE_24 rfl rfl rfl (e_Re_blame (2 : Int32)  g rfl) ?_
        refine ev_rn (n := 2) (i2 := 21) (L2 := [some (.ref 1), some (.int p0), some (.int p1)]) (st2 := [.int ((f_Re_blame (2 : Int32) g).1 1 7)]) (g2 := (f_Re_blame (2 : Int32) g)) cdE_26 rfl ?_
        by_cases hc6 : ((f_Re_blame (2 : Int32) g).1 1 7) = 0
        · rw [if_pos hc6] at h
          refine ev_zff rfl (cn_f (fun q => q hc6)) ?_
          refine ev_rn (n := 2) (i2 := 25) (L2 := [some (.ref 1), some (.int p0), some (.int p1)]) (st2 := [.int (1 : Int32)]) (g2 := (f_Re_blame (2 : Int32) g)) cdE_26 rfl ?_
          subst h
          exact ev_ret rfl rt_1
        · rw [if_neg hc6] at h
          refine ev_zft cdE_26 rfl (cn_t hc6) ?_
          refine ev_rn (n := 1) (i2 := 25) (L2 := [some (.ref 1), some (.int p0), some (.int p1)]) (st2 := [.int (0 : Int32)]) (g2 := (f_Re_blame (2 : Int32) g)) cdE_26 rfl ?_
          subst h
          exact ev_ret rfl rt_0
  · rw [if_neg hc1] at h
    refine ev_iff rfl (cn_f hc1) ?_
    refine ev_rn (n := 2) (i2 := 6) (L2 := [some (.ref 1), some (.int p0), some (.int p1)]) (st2 := [.int (1 : Int32), .ref 1]) (g2 := g) cdE_26 rfl ?_
    refine ev_call rfl cdE_24 rfl rfl rfl (e_Re_blame (1 : Int32)  g rfl) ?_
    refine ev_rn (n := 3) (i2 := 21) (L2 := [some (.ref 1), some (.int p0), some (.int p1)]) (st2 := [.int ((f_Re_blame (1 : Int32) g).1 1 7)]) (g2 := (f_Re_blame (1 : Int32) g)) cdE_26 rfl ?_
    by_cases hc7 : ((f_Re_blame (1 : Int32) g).1 1 7) = 0
    · rw [if_pos hc7] at h
      refine ev_zff rfl (cn_f (fun q => q hc7)) ?_
      refine ev_rn (n := 2) (i2 := 25) (L2 := [some (.ref 1), some (.int p0), some (.int p1)]) (st2 := [.int (1 : Int32)]) (g2 := (f_Re_blame (1 : Int32) g)) cdE_26 rfl ?_
      subst h
      exact ev_ret rfl rt_1
    · rw [if_neg hc7] at h
      refine ev_zft cdE_26 rfl (cn_t hc7) ?_
      refine ev_rn (n := 1) (i2 := 25) (L2 := [some (.ref 1), some (.int p0), some (.int p1)]) (st2 := [.int (0 : Int32)]) (g2 := (f_Re_blame (1 : Int32) g)) cdE_26 rfl ?_
      subst h
      exact ev_ret rfl rt_0
def f_Re_readFirstLine  (g : M2) : Option (M2) := ((f_Re_expectWord 1003 g).bind fun q1 => ((f_Re_expectWord 1004 q1).bind fun q2 => (if (f_Re_expectNumber (1 : Int32) (99 : Int32) q2).1 = 0 then some (f_Re_expectNumber (1 : Int32) (99 : Int32) q2).2 else ((f_Re_nextToken (uI (f_Re_expectNumber (1 : Int32) (99 : Int32) q2).2 3 6 ((f_Re_expectNumber (1 : Int32) (99 : Int32) q2).2.1 1 6))).bind fun q4 => some q4))))
theorem e_Re_readFirstLine {Lx : Nat}   (g : M2) {b : M2} (h : f_Re_readFirstLine  g = some b) : Ev Lx 27 cd_27 0 [some (.ref 1)] [] g (none, b) := by
  unfold f_Re_readFirstLine at h
  refine ev_rn (n := 2) (i2 := 2) (L2 := [some (.ref 1)]) (st2 := [.ref 1003, .ref 1]) (g2 := g) cdE_27 rfl ?_
  obtain ⟨q1, hq1, h⟩ := Option.bind_eq_some_iff.mp h
  refine ev_call rfl cdE_25 rfl rfl rfl (e_Re_expectWord 1003 (by decide) g hq1) ?_
  refine ev_rn (n := 2) (i2 := 5) (L2 := [some (.ref 1)]) (st2 := [.ref 1004, .ref 1]) (g2 := q1) cdE_27 rfl ?_
  obtain ⟨q2, hq2, h⟩ := Option.bind_eq_some_iff.mp h
  refine ev_call rfl cdE_25 rfl rfl rfl (e_Re_expectWord 1004 (by decide) q1 hq2) ?_
  refine ev_rn (n := 3) (i2 := 9) (L2 := [some (.ref 1)]) (st2 := [.int (99 : Int32), .int (1 : Int32), .ref 1]) (g2 := q2) cdE_27 rfl ?_
  refine ev_call rfl cdE_26 rfl rfl rfl (e_Re_expectNumber (1 : Int32) (99 : Int32)  q2 rfl) ?_
  by_cases hc3 : (f_Re_expectNumber (1 : Int32) (99 : Int32) q2).1 = 0
  · rw [if_pos hc3] at h
    refine ev_zft cdE_27 rfl (cn_t hc3) ?_
    cases h
    exact ev_ret rfl rfl
  · rw [if_neg hc3] at h
    refine ev_zff rfl (cn_f hc3) ?_
    refine ev_rn (n := 6) (i2 := 17) (L2 := [some (.ref 1)]) (st2 := [.ref 1]) (g2 := (uI (f_Re_expectNumber (1 : Int32) (99 : Int32) q2).2 3 6 ((f_Re_expectNumber (1 : Int32) (99 : Int32) q2).2.1 1 6))) cdE_27 rfl ?_
    obtain ⟨q4, hq4, h⟩ := Option.bind_eq_some_iff.mp h
    refine ev_call rfl cdE_22 rfl rfl rfl (e_Re_nextToken   (uI (f_Re_expectNumber (1 : Int32) (99 : Int32) q2).2 3 6 ((f_Re_expectNumber (1 : Int32) (99 : Int32) q2).2.1 1 6)) hq4) ?_
    cases h
    exact ev_ret rfl rfl
def b_Pl_elementAt_2 (v0 : Nat) (v1 : Int32) (v2 : Int32) (g : M2) : Option (Int32 ⊕ (Unit ⊕ Int32)) := (if (g.1 v0 2) ≤ v2 then some (.inr (.inl ())) else (if inb v2 5 then (if (g.1 (v0 + 1) v2.toNatClampNeg) = v1 then some (.inr (.inr v2)) else some (.inl (v2 + (1 : Int32)))) else none))
theorem tb_Pl_elementAt_2 {Lx : Nat} (v0 : Nat) (v1 : Int32) (hv0 : IsPlan v0) (v2 : Int32) (g : M2) {b : Int32 ⊕ (Unit ⊕ Int32)} {o : Option Value × M2} (h : b_Pl_elementAt_2 v0 v1 v2 g = some b) (hb : Sum.elim (fun s => Ev Lx 28 cd_28 2 [some (.ref v0), some (.int v1), some (.int s)] [] g o) (Sum.elim (fun e => Ev Lx 28 cd_28 16 [] [] g o) (fun r => o = (some (.int r), g))) b) : Ev Lx 28 cd_28 2 [some (.ref v0), some (.int v1), some (.int v2)] [] g o := by
  unfold b_Pl_elementAt_2 at h
  refine ev_rn (n := 2) (i2 := 4) (L2 := [some (.ref v0), some (.int v1), some (.int v2)]) (st2 := [.ref v0, .int v2]) (g2 := g) cdE_28 rfl ?_
  refine ev_gf (v := .int (g.1 v0 2)) rfl (pl_at hv0) (by decide) rfl ?_
  by_cases hc1 : (g.1 v0 2) ≤ v2
  · rw [if_pos hc1] at h
    refine ev_ift cdE_28 rfl (cn_t hc1) ?_
    cases h
    exact ev_wk (L := []) hb trivial
  · rw [if_neg hc1] at h
    refine ev_iff rfl (cn_f hc1) ?_
    refine ev_rn (n := 1) (i2 := 7) (L2 := [some (.ref v0), some (.int v1), some (.int v2)]) (st2 := [.ref v0]) (g2 := g) cdE_28 rfl ?_
    refine ev_gf (v := .ref (v0 + 1)) rfl (pl_at hv0) (by decide) rfl ?_
    refine ev_rn (n := 1) (i2 := 9) (L2 := [some (.ref v0), some (.int v1), some (.int v2)]) (st2 := [.int v2, .ref (v0 + 1)]) (g2 := g) cdE_28 rfl ?_
    by_cases hi2 : inb v2 5
    · rw [if_pos hi2] at h
      refine ev_iaload (v := .int (g.1 (v0 + 1) v2.toNatClampNeg)) rfl (kd_of (pl_1 hv0)) (by decide) hi2 rfl ?_
      refine ev_rn (n := 1) (i2 := 11) (L2 := [some (.ref v0), some (.int v1), some (.int v2)]) (st2 := [.int v1, .int (g.1 (v0 + 1) v2.toNatClampNeg)]) (g2 := g) cdE_28 rfl ?_
      by_cases hc3 : (g.1 (v0 + 1) v2.toNatClampNeg) = v1
      · rw [if_pos hc3] at h
        refine ev_iff rfl (cn_f (fun q => q hc3)) ?_
        refine ev_rn (n := 1) (i2 := 13) (L2 := [some (.ref v0), some (.int v1), some (.int v2)]) (st2 := [.int v2]) (g2 := g) cdE_28 rfl ?_
        cases h
        cases hb
        exact ev_ret rfl rfl
      · rw [if_neg hc3] at h
        refine ev_ift cdE_28 rfl (cn_t hc3) ?_
        refine ev_rn (n := 2) (i2 := 2) (L2 := [some (.ref v0), some (.int v1), some (.int (v2 + (1 : Int32)))]) (st2 := []) (g2 := g) cdE_28 rfl ?_
        cases h
        exact ev_wk (L := [some (.ref v0), some (.int v1), some (.int (v2 + (1 : Int32)))]) hb ⟨rfl, ⟨rfl, ⟨rfl, trivial⟩⟩⟩
    · rw [if_neg hi2] at h
      cases h
def f_Pl_elementAt (a0 : Nat) (p0 : Int32) (g : M2) : Option (Int32) := ((lp (fun s => b_Pl_elementAt_2 a0 p0 s g) 5000 (0 : Int32)).bind fun ue4 => Sum.elim (fun e4 => some (-1 : Int32)) (fun b => some re4) ue4)
theorem e_Pl_elementAt {Lx : Nat} (a0 : Nat) (p0 : Int32) (ha0 : IsPlan a0) (g : M2) {b : Int32} (h : f_Pl_elementAt a0 p0 g = some b) : Ev Lx 28 cd_28 0 [some (.ref a0), some (.int p0)] [] g (some (.int b), g) := by
  unfold f_Pl_elementAt at h
  refine ev_rn (n := 2) (i2 := 2) (L2 := [some (.ref a0), some (.int p0), some (.int (0 : Int32))]) (st2 := []) (g2 := g) cdE_28 rfl ?_
  obtain ⟨ue4, he4, h⟩ := Option.bind_eq_some_iff.mp h
  cases ue4 with
  | inl e4 =>
    replace h := h
    have hX5 : Ev Lx 28 cd_28 16 [] [] g (some (.int b), g) := by
      simp only [Sum.elim_inl] at h
      refine ev_rn (n := 1) (i2 := 17) (L2 := []) (st2 := [.int (-1 : Int32)]) (g2 := g) cdE_28 rfl ?_
      cases h
      exact ev_ret rfl rfl
    exact ev_wk (L := [some (.ref a0), some (.int p0), some (.int (0 : Int32))]) (lp_ind (P := (fun (s : Int32) => Ev Lx 28 cd_28 2 [some (.ref a0), some (.int p0), some (.int s)] [] g (some (.int b), g))) (fun s s2 hs hP => tb_Pl_elementAt_2 a0 p0 ha0 s g (b := .inl s2) hs hP) (fun s hs => tb_Pl_elementAt_2 a0 p0 ha0 s g (b := .inr (.inl e4)) hs hX5) _ _ he4) ⟨rfl, ⟨rfl, ⟨rfl, trivial⟩⟩⟩
  | inr re4 =>
    simp only [Sum.elim_inr] at h
    cases h
    exact ev_wk (L := [some (.ref a0), some (.int p0), some (.int (0 : Int32))]) (lp_ind (P := (fun (s : Int32) => Ev Lx 28 cd_28 2 [some (.ref a0), some (.int p0), some (.int s)] [] g (some (.int b), g))) (fun s s2 hs hP => tb_Pl_elementAt_2 a0 p0 ha0 s g (b := .inl s2) hs hP) (fun s hs => tb_Pl_elementAt_2 a0 p0 ha0 s g (b := .inr (.inr b)) hs rfl) _ _ he4) ⟨rfl, ⟨rfl, ⟨rfl, trivial⟩⟩⟩
def f_Pl_addElement (a0 : Nat) (p0 : Int32) (p1 : Int32) (g : M2) : Option (M2) := (if (5 : Int32) ≤ (g.1 a0 2) then some g else (if inb (g.1 a0 2) 5 then (if p1 = 0 then some (uI (uI g (a0 + 1) (g.1 a0 2).toNatClampNeg p0) a0 2 (((uI g (a0 + 1) (g.1 a0 2).toNatClampNeg p0).1 a0 2) + (1 : Int32))) else some (uI (uI (uI g (a0 + 1) (g.1 a0 2).toNatClampNeg p0) a0 3 (((uI g (a0 + 1) (g.1 a0 2).toNatClampNeg p0).1 a0 3) ||| ((1 : Int32) <<< (((uI g (a0 + 1) (g.1 a0 2).toNatClampNeg p0).1 a0 2) &&& 31)))) a0 2 (((uI (uI g (a0 + 1) (g.1 a0 2).toNatClampNeg p0) a0 3 (((uI g (a0 + 1) (g.1 a0 2).toNatClampNeg p0).1 a0 3) ||| ((1 : Int32) <<< (((uI g (a0 + 1) (g.1 a0 2).toNatClampNeg p0).1 a0 2) &&& 31)))).1 a0 2) + (1 : Int32)))) else none))
theorem e_Pl_addElement {Lx : Nat} (a0 : Nat) (p0 : Int32) (p1 : Int32) (ha0 : IsPlan a0) (g : M2) {b : M2} (h : f_Pl_addElement a0 p0 p1 g = some b) : Ev Lx 29 cd_29 0 [some (.ref a0), some (.int p0), some (.int p1)] [] g (none, b) := by
  unfold f_Pl_addElement at h
  refine ev_rn (n := 1) (i2 := 1) (L2 := [some (.ref a0), some (.int p0), some (.int p1)]) (st2 := [.ref a0]) (g2 := g) cdE_29 rfl ?_
  refine ev_gf (v := .int (g.1 a0 2)) rfl (pl_at ha0) (by decide) rfl ?_
  refine ev_rn (n := 1) (i2 := 3) (L2 := [some (.ref a0), some (.int p0), some (.int p1)]) (st2 := [.int (5 : Int32), .int (g.1 a0 2)]) (g2 := g) cdE_29 rfl ?_
  by_cases hc1 : (5 : Int32) ≤ (g.1 a0 2)
  · rw [if_pos hc1] at h
    refine ev_ift cdE_29 rfl (cn_t hc1) ?_
    cases h
    exact ev_ret rfl rfl
  · rw [if_neg hc1] at h
    refine ev_iff rfl (cn_f hc1) ?_
    refine ev_rn (n := 1) (i2 := 5) (L2 := [some (.ref a0), some (.int p0), some (.int p1)]) (st2 := [.ref a0]) (g2 := g) cdE_29 rfl ?_
    refine ev_gf (v := .ref (a0 + 1)) rfl (pl_at ha0) (by decide) rfl ?_
    refine ev_rn (n := 1) (i2 := 7) (L2 := [some (.ref a0), some (.int p0), some (.int p1)]) (st2 := [.ref a0, .ref (a0 + 1)]) (g2 := g) cdE_29 rfl ?_
    refine ev_gf (v := .int (g.1 a0 2)) rfl (pl_at ha0) (by decide) rfl ?_
    refine ev_rn (n := 1) (i2 := 9) (L2 := [some (.ref a0), some (.int p0), some (.int p1)]) (st2 := [.int p0, .int (g.1 a0 2), .ref (a0 + 1)]) (g2 := g) cdE_29 rfl ?_
    by_cases hi3 : inb (g.1 a0 2) 5
    · rw [if_pos hi3] at h
      refine ev_iastore (g2 := (uI g (a0 + 1) (g.1 a0 2).toNatClampNeg p0)) rfl (pl_1 ha0) (by decide) hi3 rfl ?_
      refine ev_rn (n := 1) (i2 := 11) (L2 := [some (.ref a0), some (.int p0), some (.int p1)]) (st2 := [.int p1]) (g2 := (uI g (a0 + 1) (g.1 a0 2).toNatClampNeg p0)) cdE_29 rfl ?_
      by_cases hc2 : p1 = 0
      · rw [if_pos hc2] at h
        refine ev_zft cdE_29 rfl (cn_t hc2) ?_
        refine ev_rn (n := 2) (i2 := 23) (L2 := [some (.ref a0), some (.int p0), some (.int p1)]) (st2 := [.ref a0, .ref a0]) (g2 := (uI g (a0 + 1) (g.1 a0 2).toNatClampNeg p0)) cdE_29 rfl ?_
        refine ev_gf (v := .int ((uI g (a0 + 1) (g.1 a0 2).toNatClampNeg p0).1 a0 2)) rfl (pl_at ha0) (by decide) rfl ?_
        refine ev_rn (n := 2) (i2 := 26) (L2 := [some (.ref a0), some (.int p0), some (.int p1)]) (st2 := [.int (((uI g (a0 + 1) (g.1 a0 2).toNatClampNeg p0).1 a0 2) + (1 : Int32)), .ref a0]) (g2 := (uI g (a0 + 1) (g.1 a0 2).toNatClampNeg p0)) cdE_29 rfl ?_
        refine ev_pf (g2 := (uI (uI g (a0 + 1) (g.1 a0 2).toNatClampNeg p0) a0 2 (((uI g (a0 + 1) (g.1 a0 2).toNatClampNeg p0).1 a0 2) + (1 : Int32)))) rfl (pl_at ha0) (by decide) rfl ?_
        cases h
        exact ev_ret rfl rfl
      · rw [if_neg hc2] at h
        refine ev_zff rfl (cn_f hc2) ?_
        refine ev_rn (n := 2) (i2 := 14) (L2 := [some (.ref a0), some (.int p0), some (.int p1)]) (st2 := [.ref a0, .ref a0]) (g2 := (uI g (a0 + 1) (g.1 a0 2).toNatClampNeg p0)) cdE_29 rfl ?_
        refine ev_gf (v := .int ((uI g (a0 + 1) (g.1 a0 2).toNatClampNeg p0).1 a0 3)) rfl (pl_at ha0) (by decide) rfl ?_
        refine ev_rn (n := 2) (i2 := 17) (L2 := [some (.ref a0), some (.int p0), some (.int p1)]) (st2 := [.ref a0, .int (1 : Int32), .int ((uI g (a0 + 1) (g.1 a0 2).toNatClampNeg p0).1 a0 3), .ref a0]) (g2 := (uI g (a0 + 1) (g.1 a0 2).toNatClampNeg p0)) cdE_29 rfl ?_
        refine ev_gf (v := .int ((uI g (a0 + 1) (g.1 a0 2).toNatClampNeg p0).1 a0 2)) rfl (pl_at ha0) (by decide) rfl ?_
        refine ev_rn (n := 2) (i2 := 20) (L2 := [some (.ref a0), some (.int p0), some (.int p1)]) (st2 := [.int (((uI g (a0 + 1) (g.1 a0 2).toNatClampNeg p0).1 a0 3) ||| ((1 : Int32) <<< (((uI g (a0 + 1) (g.1 a0 2).toNatClampNeg p0).1 a0 2) &&& 31))), .ref a0]) (g2 := (uI g (a0 + 1) (g.1 a0 2).toNatClampNeg p0)) cdE_29 rfl ?_
        refine ev_pf (g2 := (uI (uI g (a0 + 1) (g.1 a0 2).toNatClampNeg p0) a0 3 (((uI g (a0 + 1) (g.1 a0 2).toNatClampNeg p0).1 a0 3) ||| ((1 : Int32) <<< (((uI g (a0 + 1) (g.1 a0 2).toNatClampNeg p0).1 a0 2) &&& 31))))) rfl (pl_at ha0) (by decide) rfl ?_
        refine ev_rn (n := 2) (i2 := 23) (L2 := [some (.ref a0), some (.int p0), some (.int p1)]) (st2 := [.ref a0, .ref a0]) (g2 := (uI (uI g (a0 + 1) (g.1 a0 2).toNatClampNeg p0) a0 3 (((uI g (a0 + 1) (g.1 a0 2).toNatClampNeg p0).1 a0 3) ||| ((1 : Int32) <<< (((uI g (a0 + 1) (g.1 a0 2).toNatClampNeg p0).1 a0 2) &&& 31))))) cdE_29 rfl ?_
        refine ev_gf (v := .int ((uI (uI g (a0 + 1) (g.1 a0 2).toNatClampNeg p0) a0 3 (((uI g (a0 + 1) (g.1 a0 2).toNatClampNeg p0).1 a0 3) ||| ((1 : Int32) <<< (((uI g (a0 + 1) (g.1 a0 2).toNatClampNeg p0).1 a0 2) &&& 31)))).1 a0 2)) rfl (pl_at ha0) (by decide) rfl ?_
        refine ev_rn (n := 2) (i2 := 26) (L2 := [some (.ref a0), some (.int p0), some (.int p1)]) (st2 := [.int (((uI (uI g (a0 + 1) (g.1 a0 2).toNatClampNeg p0) a0 3 (((uI g (a0 + 1) (g.1 a0 2).toNatClampNeg p0).1 a0 3) ||| ((1 : Int32) <<< (((uI g (a0 + 1) (g.1 a0 2).toNatClampNeg p0).1 a0 2) &&& 31)))).1 a0 2) + (1 : Int32)), .ref a0]) (g2 := (uI (uI g (a0 + 1) (g.1 a0 2).toNatClampNeg p0) a0 3 (((uI g (a0 + 1) (g.1 a0 2).toNatClampNeg p0).1 a0 3) ||| ((1 : Int32) <<< (((uI g (a0 + 1) (g.1 a0 2).toNatClampNeg p0).1 a0 2) &&& 31))))) cdE_29 rfl ?_
        refine ev_pf (g2 := (uI (uI (uI g (a0 + 1) (g.1 a0 2).toNatClampNeg p0) a0 3 (((uI g (a0 + 1) (g.1 a0 2).toNatClampNeg p0).1 a0 3) ||| ((1 : Int32) <<< (((uI g (a0 + 1) (g.1 a0 2).toNatClampNeg p0).1 a0 2) &&& 31)))) a0 2 (((uI (uI g (a0 + 1) (g.1 a0 2).toNatClampNeg p0) a0 3 (((uI g (a0 + 1) (g.1 a0 2).toNatClampNeg p0).1 a0 3) ||| ((1 : Int32) <<< (((uI g (a0 + 1) (g.1 a0 2).toNatClampNeg p0).1 a0 2) &&& 31)))).1 a0 2) + (1 : Int32)))) rfl (pl_at ha0) (by decide) rfl ?_
        cases h
        exact ev_ret rfl rfl
    · rw [if_neg hi3] at h
      cases h
def j_Re_readElement_8 (v1 : Int32) (g : M2) : Option (M2) := ((f_Re_nextToken g).bind fun q2 => (if (f_Re_expectNumber (0 : Int32) (11 : Int32) q2).1 = 0 then some (f_Re_expectNumber (0 : Int32) (11 : Int32) q2).2 else ((f_Pl_elementAt 3 ((f_Re_expectNumber (0 : Int32) (11 : Int32) q2).2.1 1 6) (f_Re_expectNumber (0 : Int32) (11 : Int32) q2).2).bind fun q4 => (if q4 = (-1 : Int32) then ((f_Pl_addElement 3 ((f_Re_expectNumber (0 : Int32) (11 : Int32) q2).2.1 1 6) v1 (f_Re_expectNumber (0 : Int32) (11 : Int32) q2).2).bind fun q6 => ((f_Re_nextToken q6).bind fun q7 => some q7)) else ((f_Pl_addElement 3 ((f_Re_blame (2 : Int32) (f_Re_expectNumber (0 : Int32) (11 : Int32) q2).2).1 1 6) v1 (f_Re_blame (2 : Int32) (f_Re_expectNumber (0 : Int32) (11 : Int32) q2).2)).bind fun q8 => ((f_Re_nextToken q8).bind fun q9 => some q9))))))
theorem tj_Re_readElement_8 {Lx : Nat}  (v1 : Int32)  (g : M2) {b : M2} (h : j_Re_readElement_8 v1 g = some b) : Ev Lx 30 cd_30 8 [some (.ref 1), some (.int v1)] [] g (none, b) := by
  unfold j_Re_readElement_8 at h
  refine ev_rn (n := 1) (i2 := 9) (L2 := [some (.ref 1), some (.int v1)]) (st2 := [.ref 1]) (g2 := g) cdE_30 rfl ?_
  obtain ⟨q2, hq2, h⟩ := Option.bind_eq_some_iff.mp h
  refine ev_call rfl cdE_22 rfl rfl rfl (e_Re_nextToken   g hq2) ?_
  refine ev_rn (n := 3) (i2 := 13) (L2 := [some (.ref 1), some (.int v1)]) (st2 := [.int (11 : Int32), .int (0 : Int32), .ref 1]) (g2 := q2) cdE_30 rfl ?_
  refine ev_call rfl cdE_26 rfl rfl rfl (e_Re_expectNumber (0 : Int32) (11 : Int32)  q2 rfl) ?_
  by_cases hc3 : (f_Re_expectNumber (0 : Int32) (11 : Int32) q2).1 = 0
  · rw [if_pos hc3] at h
    refine ev_zft cdE_30 rfl (cn_t hc3) ?_
    cases h
    exact ev_ret rfl rfl
  · rw [if_neg hc3] at h
    refine ev_zff rfl (cn_f hc3) ?_
    refine ev_rn (n := 4) (i2 := 19) (L2 := [some (.ref 1), some (.int v1)]) (st2 := [.int ((f_Re_expectNumber (0 : Int32) (11 : Int32) q2).2.1 1 6), .ref 3]) (g2 := (f_Re_expectNumber (0 : Int32) (11 : Int32) q2).2) cdE_30 rfl ?_
    obtain ⟨q4, hq4, h⟩ := Option.bind_eq_some_iff.mp h
    refine ev_call rfl cdE_28 rfl rfl rfl (e_Pl_elementAt 3 ((f_Re_expectNumber (0 : Int32) (11 : Int32) q2).2.1 1 6) (by decide) (f_Re_expectNumber (0 : Int32) (11 : Int32) q2).2 hq4) ?_
    refine ev_rn (n := 1) (i2 := 21) (L2 := [some (.ref 1), some (.int v1)]) (st2 := [.int (-1 : Int32), .int q4]) (g2 := (f_Re_expectNumber (0 : Int32) (11 : Int32) q2).2) cdE_30 rfl ?_
    by_cases hc5 : q4 = (-1 : Int32)
    · rw [if_pos hc5] at h
      refine ev_ift cdE_30 rfl (cn_t hc5) ?_
      refine ev_rn (n := 5) (i2 := 30) (L2 := [some (.ref 1), some (.int v1)]) (st2 := [.int v1, .int ((f_Re_expectNumber (0 : Int32) (11 : Int32) q2).2.1 1 6), .ref 3]) (g2 := (f_Re_expectNumber (0 : Int32) (11 : Int32) q2).2) cdE_30 rfl ?_
      obtain ⟨q6, hq6, h⟩ := Option.bind_eq_some_iff.mp h
      refine ev_call rfl cdE_29 rfl rfl rfl (e_Pl_addElement 3 ((f_Re_expectNumber (0 : Int32) (11 : Int32) q2).2.1 1 6) v1 (by decide) (f_Re_expectNumber (0 : Int32) (11 : Int32) q2).2 hq6) ?_
      refine ev_rn (n := 1) (i2 := 32) (L2 := [some (.ref 1), some (.int v1)]) (st2 := [.ref 1]) (g2 := q6) cdE_30 rfl ?_
      obtain ⟨q7, hq7, h⟩ := Option.bind_eq_some_iff.mp h
      refine ev_call rfl cdE_22 rfl rfl rfl (e_Re_nextToken   q6 hq7) ?_
      cases h
      exact ev_ret rfl rfl
    · rw [if_neg hc5] at h
      refine ev_iff rfl (cn_f hc5) ?_
      refine ev_rn (n := 2) (i2 := 24) (L2 := [some (.ref 1), some (.int v1)]) (st2 := [.int (2 : Int32), .ref 1]) (g2 := (f_Re_expectNumber (0 : Int32) (11 : Int32) q2).2) cdE_30 rfl ?_
      refine ev_call rfl cdE_24 rfl rfl rfl (e_Re_blame (2 : Int32)  (f_Re_expectNumber (0 : Int32) (11 : Int32) q2).2 rfl) ?_
      refine ev_rn (n := 5) (i2 := 30) (L2 := [some (.ref 1), some (.int v1)]) (st2 := [.int v1, .int ((f_Re_blame (2 : Int32) (f_Re_expectNumber (0 : Int32) (11 : Int32) q2).2).1 1 6), .ref 3]) (g2 := (f_Re_blame (2 : Int32) (f_Re_expectNumber (0 : Int32) (11 : Int32) q2).2)) cdE_30 rfl ?_
      obtain ⟨q8, hq8, h⟩ := Option.bind_eq_some_iff.mp h
      refine ev_call rfl cdE_29 rfl rfl rfl (e_Pl_addElement 3 ((f_Re_blame (2 : Int32) (f_Re_expectNumber (0 : Int32) (11 : Int32) q2).2).1 1 6) v1 (by decide) (f_Re_blame (2 : Int32) (f_Re_expectNumber (0 : Int32) (11 : Int32) q2).2) hq8) ?_
      refine ev_rn (n := 1) (i2 := 32) (L2 := [some (.ref 1), some (.int v1)]) (st2 := [.ref 1]) (g2 := q8) cdE_30 rfl ?_
      obtain ⟨q9, hq9, h⟩ := Option.bind_eq_some_iff.mp h
      refine ev_call rfl cdE_22 rfl rfl rfl (e_Re_nextToken   q8 hq9) ?_
      cases h
      exact ev_ret rfl rfl
def f_Re_readElement (p0 : Int32) (g : M2) : Option (M2) := (if (g.1 3 2) = (5 : Int32) then (j_Re_readElement_8 p0 (f_Re_blame (3 : Int32) g)) else (j_Re_readElement_8 p0 g))
theorem e_Re_readElement {Lx : Nat} (p0 : Int32)  (g : M2) {b : M2} (h : f_Re_readElement p0 g = some b) : Ev Lx 30 cd_30 0 [some (.ref 1), some (.int p0)] [] g (none, b) := by
  unfold f_Re_readElement at h
  refine ev_rn (n := 4) (i2 := 4) (L2 := [some (.ref 1), some (.int p0)]) (st2 := [.int (5 : Int32), .int (g.1 3 2)]) (g2 := g) cdE_30 rfl ?_
  by_cases hc1 : (g.1 3 2) = (5 : Int32)
  · rw [if_pos hc1] at h
    refine ev_iff rfl (cn_f (fun q => q hc1)) ?_
    refine ev_rn (n := 2) (i2 := 7) (L2 := [some (.ref 1), some (.int p0)]) (st2 := [.int (3 : Int32), .ref 1]) (g2 := g) cdE_30 rfl ?_
    refine ev_call rfl cdE_24 rfl rfl rfl (e_Re_blame (3 : Int32)  g rfl) ?_
    exact ev_wk (L := [some (.ref 1), some (.int p0)]) (tj_Re_readElement_8  p0  (f_Re_blame (3 : Int32) g) h) ⟨rfl, ⟨rfl, trivial⟩⟩
  · rw [if_neg hc1] at h
    refine ev_ift cdE_30 rfl (cn_t hc1) ?_
    exact ev_wk (L := [some (.ref 1), some (.int p0)]) (tj_Re_readElement_8  p0  g h) ⟨rfl, ⟨rfl, trivial⟩⟩
def b_Pl_deafBits_4 (v0 : Nat) (v1 : Int32) (v2 : Int32) (g : M2) : Option ((Int32 × Int32) ⊕ Int32) := (if (g.1 v0 5) ≤ v2 then some (.inr v1) else (if inb v2 4 then some (.inl ((v1 ||| ((1 : Int32) <<< ((g.1 (v0 + 2) v2.toNatClampNeg) &&& 31))), (v2 + (1 : Int32)))) else none))
theorem tb_Pl_deafBits_4 {Lx : Nat} (v0 : Nat) (hv0 : IsPlan v0) (v1 : Int32) (v2 : Int32) (g : M2) {b : (Int32 × Int32) ⊕ Int32} {o : Option Value × M2} (h : b_Pl_deafBits_4 v0 v1 v2 g = some b) (hb : Sum.elim (fun s => Ev Lx 31 cd_31 4 [some (.ref v0), some (.int s.1), some (.int s.2)] [] g o) (fun e => Ev Lx 31 cd_31 19 [none, some (.int e)] [] g o) b) : Ev Lx 31 cd_31 4 [some (.ref v0), some (.int v1), some (.int v2)] [] g o := by
  unfold b_Pl_deafBits_4 at h
  refine ev_rn (n := 2) (i2 := 6) (L2 := [some (.ref v0), some (.int v1), some (.int v2)]) (st2 := [.ref v0, .int v2]) (g2 := g) cdE_31 rfl ?_
  refine ev_gf (v := .int (g.1 v0 5)) rfl (pl_at hv0) (by decide) rfl ?_
  by_cases hc1 : (g.1 v0 5) ≤ v2
  · rw [if_pos hc1] at h
    refine ev_ift cdE_31 rfl (cn_t hc1) ?_
    cases h
    exact ev_wk (L := [none, some (.int v1)]) hb ⟨rfl, trivial⟩
  · rw [if_neg hc1] at h
    refine ev_iff rfl (cn_f hc1) ?_
    refine ev_rn (n := 3) (i2 := 11) (L2 := [some (.ref v0), some (.int v1), some (.int v2)]) (st2 := [.ref v0, .int (1 : Int32), .int v1]) (g2 := g) cdE_31 rfl ?_
    refine ev_gf (v := .ref (v0 + 2)) rfl (pl_at hv0) (by decide) rfl ?_
    refine ev_rn (n := 1) (i2 := 13) (L2 := [some (.ref v0), some (.int v1), some (.int v2)]) (st2 := [.int v2, .ref (v0 + 2), .int (1 : Int32), .int v1]) (g2 := g) cdE_31 rfl ?_
    by_cases hi2 : inb v2 4
    · rw [if_pos hi2] at h
      refine ev_iaload (v := .int (g.1 (v0 + 2) v2.toNatClampNeg)) rfl (kd_of (pl_2 hv0)) (by decide) hi2 rfl ?_
      refine ev_rn (n := 5) (i2 := 4) (L2 := [some (.ref v0), some (.int (v1 ||| ((1 : Int32) <<< ((g.1 (v0 + 2) v2.toNatClampNeg) &&& 31)))), some (.int (v2 + (1 : Int32)))]) (st2 := []) (g2 := g) cdE_31 rfl ?_
      cases h
      exact ev_wk (L := [some (.ref v0), some (.int (v1 ||| ((1 : Int32) <<< ((g.1 (v0 + 2) v2.toNatClampNeg) &&& 31)))), some (.int (v2 + (1 : Int32)))]) hb ⟨rfl, ⟨rfl, ⟨rfl, trivial⟩⟩⟩
    · rw [if_neg hi2] at h
      cases h
def f_Pl_deafBits (a0 : Nat) (g : M2) : Option (Int32) := ((lp (fun s => b_Pl_deafBits_4 a0 s.1 s.2 g) 5000 ((0 : Int32), (0 : Int32))).bind fun e3 => some e3)
theorem e_Pl_deafBits {Lx : Nat} (a0 : Nat) (ha0 : IsPlan a0) (g : M2) {b : Int32} (h : f_Pl_deafBits a0 g = some b) : Ev Lx 31 cd_31 0 [some (.ref a0)] [] g (some (.int b), g) := by
  unfold f_Pl_deafBits at h
  refine ev_rn (n := 4) (i2 := 4) (L2 := [some (.ref a0), some (.int (0 : Int32)), some (.int (0 : Int32))]) (st2 := []) (g2 := g) cdE_31 rfl ?_
  obtain ⟨e3, he3, h⟩ := Option.bind_eq_some_iff.mp h
  have hX4 : Ev Lx 31 cd_31 19 [none, some (.int e3)] [] g (some (.int b), g) := by
    refine ev_rn (n := 1) (i2 := 20) (L2 := [none, some (.int e3)]) (st2 := [.int e3]) (g2 := g) cdE_31 rfl ?_
    cases h
    exact ev_ret rfl rfl
  exact ev_wk (L := [some (.ref a0), some (.int (0 : Int32)), some (.int (0 : Int32))]) (lp_ind (P := (fun (s : (Int32 × Int32)) => Ev Lx 31 cd_31 4 [some (.ref a0), some (.int s.1), some (.int s.2)] [] g (some (.int b), g))) (fun s s2 hs hP => tb_Pl_deafBits_4 a0 ha0 s.1 s.2 g (b := .inl s2) hs hP) (fun s hs => tb_Pl_deafBits_4 a0 ha0 s.1 s.2 g (b := .inr e3) hs hX4) _ _ he3) ⟨rfl, ⟨rfl, ⟨rfl, trivial⟩⟩⟩
def f_Pl_wishBits (a0 : Nat) (g : M2) : Option (Int32) := (if (g.1 a0 4) = (-1 : Int32) then ((f_Pl_deafBits a0 g).bind fun q3 => some q3) else ((f_Pl_deafBits a0 g).bind fun q2 => some (q2 ||| ((1 : Int32) <<< ((g.1 a0 4) &&& 31)))))
theorem e_Pl_wishBits {Lx : Nat} (a0 : Nat) (ha0 : IsPlan a0) (g : M2) {b : Int32} (h : f_Pl_wishBits a0 g = some b) : Ev Lx 32 cd_32 0 [some (.ref a0)] [] g (some (.int b), g) := by
  unfold f_Pl_wishBits at h
  refine ev_rn (n := 1) (i2 := 1) (L2 := [some (.ref a0)]) (st2 := [.ref a0]) (g2 := g) cdE_32 rfl ?_
  refine ev_gf (v := .int (g.1 a0 4)) rfl (pl_at ha0) (by decide) rfl ?_
  refine ev_rn (n := 1) (i2 := 3) (L2 := [some (.ref a0)]) (st2 := [.int (-1 : Int32), .int (g.1 a0 4)]) (g2 := g) cdE_32 rfl ?_
  by_cases hc1 : (g.1 a0 4) = (-1 : Int32)
  · rw [if_pos hc1] at h
    refine ev_iff rfl (cn_f (fun q => q hc1)) ?_
    refine ev_rn (n := 1) (i2 := 5) (L2 := [some (.ref a0)]) (st2 := [.ref a0]) (g2 := g) cdE_32 rfl ?_
    obtain ⟨q3, hq3, h⟩ := Option.bind_eq_some_iff.mp h
    refine ev_call rfl cdE_31 (cokV rfl rfl (pl_at ha0) rfl) rfl rfl (e_Pl_deafBits a0 ha0 g hq3) ?_
    refine ev_rn (n := 1) (i2 := 14) (L2 := [some (.ref a0)]) (st2 := [.int q3]) (g2 := g) cdE_32 rfl ?_
    cases h
    exact ev_ret rfl rfl
  · rw [if_neg hc1] at h
    refine ev_ift cdE_32 rfl (cn_t hc1) ?_
    refine ev_rn (n := 1) (i2 := 8) (L2 := [some (.ref a0)]) (st2 := [.ref a0]) (g2 := g) cdE_32 rfl ?_
    obtain ⟨q2, hq2, h⟩ := Option.bind_eq_some_iff.mp h
    refine ev_call rfl cdE_31 (cokV rfl rfl (pl_at ha0) rfl) rfl rfl (e_Pl_deafBits a0 ha0 g hq2) ?_
    refine ev_rn (n := 2) (i2 := 11) (L2 := [some (.ref a0)]) (st2 := [.ref a0, .int (1 : Int32), .int q2]) (g2 := g) cdE_32 rfl ?_
    refine ev_gf (v := .int (g.1 a0 4)) rfl (pl_at ha0) (by decide) rfl ?_
    refine ev_rn (n := 2) (i2 := 14) (L2 := [some (.ref a0)]) (st2 := [.int (q2 ||| ((1 : Int32) <<< ((g.1 a0 4) &&& 31)))]) (g2 := g) cdE_32 rfl ?_
    cases h
    exact ev_ret rfl rfl
def f_Re_expectDirection  (g : M2) : Option (Int32 × M2) := (if (f_Re_expectNumber (0 : Int32) (11 : Int32) g).1 = 0 then some ((0 : Int32), (f_Re_expectNumber (0 : Int32) (11 : Int32) g).2) else ((f_Pl_wishBits 3 (f_Re_expectNumber (0 : Int32) (11 : Int32) g).2).bind fun q2 => (if ((q2 >>> (((f_Re_expectNumber (0 : Int32) (11 : Int32) g).2.1 1 6) &&& 31)) &&& (1 : Int32)) = 0 then (if ((f_Re_expectNumber (0 : Int32) (11 : Int32) g).2.1 1 7) = 0 then some ((1 : Int32), (f_Re_expectNumber (0 : Int32) (11 : Int32) g).2) else some ((0 : Int32), (f_Re_expectNumber (0 : Int32) (11 : Int32) g).2)) else (if ((f_Re_blame (2 : Int32) (f_Re_expectNumber (0 : Int32) (11 : Int32) g).2).1 1 7) = 0 then some ((1 : Int32), (f_Re_blame (2 : Int32) (f_Re_expectNumber (0 : Int32) (11 : Int32) g).2)) else some ((0 : Int32), (f_Re_blame (2 : Int32) (f_Re_expectNumber (0 : Int32) (11 : Int32) g).2))))))
theorem e_Re_expectDirection {Lx : Nat}   (g : M2) {b : (Int32 × M2)} (h : f_Re_expectDirection  g = some b) : Ev Lx 33 cd_33 0 [some (.ref 1)] [] g (some (.int b.1), b.2) := by
  unfold f_Re_expectDirection at h
  refine ev_rn (n := 3) (i2 := 3) (L2 := [some (.ref 1)]) (st2 := [.int (11 : Int32), .int (0 : Int32), .ref 1]) (g2 := g) cdE_33 rfl ?_
  refine ev_call rfl cdE_26 rfl rfl rfl (e_Re_expectNumber (0 : Int32) (11 : Int32)  g rfl) ?_
  by_cases hc1 : (f_Re_expectNumber (0 : Int32) (11 : Int32) g).1 = 0
  · rw [if_pos hc1] at h
    refine ev_zff rfl (cn_f (fun q => q hc1)) ?_
    refine ev_rn (n := 1) (i2 := 6) (L2 := [some (.ref 1)]) (st2 := [.int (0 : Int32)]) (g2 := (f_Re_expectNumber (0 : Int32) (11 : Int32) g).2) cdE_33 rfl ?_
    cases h
    exact ev_ret rfl rt_0
  · rw [if_neg hc1] at h
    refine ev_zft cdE_33 rfl (cn_t hc1) ?_
    refine ev_rn (n := 2) (i2 := 9) (L2 := [some (.ref 1)]) (st2 := [.ref 3]) (g2 := (f_Re_expectNumber (0 : Int32) (11 : Int32) g).2) cdE_33 rfl ?_
    obtain ⟨q2, hq2, h⟩ := Option.bind_eq_some_iff.mp h
    refine ev_call rfl cdE_32 rfl rfl rfl (e_Pl_wishBits 3 (by decide) (f_Re_expectNumber (0 : Int32) (11 : Int32) g).2 hq2) ?_
    refine ev_rn (n := 5) (i2 := 15) (L2 := [some (.ref 1)]) (st2 := [.int ((q2 >>> (((f_Re_expectNumber (0 : Int32) (11 : Int32) g).2.1 1 6) &&& 31)) &&& (1 : Int32))]) (g2 := (f_Re_expectNumber (0 : Int32) (11 : Int32) g).2) cdE_33 rfl ?_
    by_cases hc3 : ((q2 >>> (((f_Re_expectNumber (0 : Int32) (11 : Int32) g).2.1 1 6) &&& 31)) &&& (1 : Int32)) = 0
    · rw [if_pos hc3] at h
      refine ev_zft cdE_33 rfl (cn_t hc3) ?_
      refine ev_rn (n := 2) (i2 := 21) (L2 := [some (.ref 1)]) (st2 := [.int ((f_Re_expectNumber (0 : Int32) (11 : Int32) g).2.1 1 7)]) (g2 := (f_Re_expectNumber (0 : Int32) (11 : Int32) g).2) cdE_33 rfl ?_
      by_cases hc4 : ((f_Re_expectNumber (0 : Int32) (11 : Int32) g).2.1 1 7) = 0
      · rw [if_pos hc4] at h
        refine ev_zff rfl (cn_f (fun q => q hc4)) ?_
        refine ev_rn (n := 2) (i2 := 25) (L2 := [some (.ref 1)]) (st2 := [.int (1 : Int32)]) (g2 := (f_Re_expectNumber (0 : Int32) (11 : Int32) g).2) cdE_33 rfl ?_
        cases h
        exact ev_ret rfl rt_1
      · rw [if_neg hc4] at h
        refine ev_zft cdE_33 rfl (cn_t hc4) ?_
        refine ev_rn (n := 1) (i2 := 25) (L2 := [some (.ref 1)]) (st2 := [.int (0 : Int32)]) (g2 := (f_Re_expectNumber (0 : Int32) (11 : Int32) g).2) cdE_33 rfl ?_
        cases h
        exact ev_ret rfl rt_0
    · rw [if_neg hc3] at h
      refine ev_zff rfl (cn_f hc3) ?_
      refine ev_rn (n := 2) (i2 := 18) (L2 := [some (.ref 1)]) (st2 := [.int (2 : Int32), .ref 1]) (g2 := (f_Re_expectNumber (0 : Int32) (11 : Int32) g).2) cdE_33 rfl ?_
      refine ev_call rfl cdE_24 rfl rfl rfl (e_Re_blame (2 : Int32)  (f_Re_expectNumber (0 : Int32) (11 : Int32) g).2 rfl) ?_
      refine ev_rn (n := 2) (i2 := 21) (L2 := [some (.ref 1)]) (st2 := [.int ((f_Re_blame (2 : Int32) (f_Re_expectNumber (0 : Int32) (11 : Int32) g).2).1 1 7)]) (g2 := (f_Re_blame (2 : Int32) (f_Re_expectNumber (0 : Int32) (11 : Int32) g).2)) cdE_33 rfl ?_
      by_cases hc5 : ((f_Re_blame (2 : Int32) (f_Re_expectNumber (0 : Int32) (11 : Int32) g).2).1 1 7) = 0
      · rw [if_pos hc5] at h
        refine ev_zff rfl (cn_f (fun q => q hc5)) ?_
        refine ev_rn (n := 2) (i2 := 25) (L2 := [some (.ref 1)]) (st2 := [.int (1 : Int32)]) (g2 := (f_Re_blame (2 : Int32) (f_Re_expectNumber (0 : Int32) (11 : Int32) g).2)) cdE_33 rfl ?_
        cases h
        exact ev_ret rfl rt_1
      · rw [if_neg hc5] at h
        refine ev_zft cdE_33 rfl (cn_t hc5) ?_
        refine ev_rn (n := 1) (i2 := 25) (L2 := [some (.ref 1)]) (st2 := [.int (0 : Int32)]) (g2 := (f_Re_blame (2 : Int32) (f_Re_expectNumber (0 : Int32) (11 : Int32) g).2)) cdE_33 rfl ?_
        cases h
        exact ev_ret rfl rt_0
def j_Re_readLook_8  (g : M2) : Option (M2) := ((f_Re_nextToken g).bind fun q2 => ((f_Re_expectDirection q2).bind fun q3 => (if q3.1 = 0 then some q3.2 else ((f_Re_nextToken (uI q3.2 3 4 (q3.2.1 1 6))).bind fun q5 => some q5))))
theorem tj_Re_readLook_8 {Lx : Nat}    (g : M2) {b : M2} (h : j_Re_readLook_8  g = some b) : Ev Lx 34 cd_34 8 [some (.ref 1)] [] g (none, b) := by
  unfold j_Re_readLook_8 at h
  refine ev_rn (n := 1) (i2 := 9) (L2 := [some (.ref 1)]) (st2 := [.ref 1]) (g2 := g) cdE_34 rfl ?_
  obtain ⟨q2, hq2, h⟩ := Option.bind_eq_some_iff.mp h
  refine ev_call rfl cdE_22 rfl rfl rfl (e_Re_nextToken   g hq2) ?_
  refine ev_rn (n := 1) (i2 := 11) (L2 := [some (.ref 1)]) (st2 := [.ref 1]) (g2 := q2) cdE_34 rfl ?_
  obtain ⟨q3, hq3, h⟩ := Option.bind_eq_some_iff.mp h
  refine ev_call rfl cdE_33 rfl rfl rfl (e_Re_expectDirection   q2 hq3) ?_
  by_cases hc4 : q3.1 = 0
  · rw [if_pos hc4] at h
    refine ev_zft cdE_34 rfl (cn_t hc4) ?_
    cases h
    exact ev_ret rfl rfl
  · rw [if_neg hc4] at h
    refine ev_zff rfl (cn_f hc4) ?_
    refine ev_rn (n := 6) (i2 := 19) (L2 := [some (.ref 1)]) (st2 := [.ref 1]) (g2 := (uI q3.2 3 4 (q3.2.1 1 6))) cdE_34 rfl ?_
    obtain ⟨q5, hq5, h⟩ := Option.bind_eq_some_iff.mp h
    refine ev_call rfl cdE_22 rfl rfl rfl (e_Re_nextToken   (uI q3.2 3 4 (q3.2.1 1 6)) hq5) ?_
    cases h
    exact ev_ret rfl rfl
def f_Re_readLook  (g : M2) : Option (M2) := (if (g.1 3 4) = (-1 : Int32) then (j_Re_readLook_8  g) else (j_Re_readLook_8  (f_Re_blame (3 : Int32) g)))
theorem e_Re_readLook {Lx : Nat}   (g : M2) {b : M2} (h : f_Re_readLook  g = some b) : Ev Lx 34 cd_34 0 [some (.ref 1)] [] g (none, b) := by
  unfold f_Re_readLook at h
  refine ev_rn (n := 4) (i2 := 4) (L2 := [some (.ref 1)]) (st2 := [.int (-1 : Int32), .int (g.1 3 4)]) (g2 := g) cdE_34 rfl ?_
  by_cases hc1 : (g.1 3 4) = (-1 : Int32)
  · rw [if_pos hc1] at h
    refine ev_ift cdE_34 rfl (cn_t hc1) ?_
    exact ev_wk (L := [some (.ref 1)]) (tj_Re_readLook_8    g h) ⟨rfl, trivial⟩
  · rw [if_neg hc1] at h
    refine ev_iff rfl (cn_f hc1) ?_
    refine ev_rn (n := 2) (i2 := 7) (L2 := [some (.ref 1)]) (st2 := [.int (3 : Int32), .ref 1]) (g2 := g) cdE_34 rfl ?_
    refine ev_call rfl cdE_24 rfl rfl rfl (e_Re_blame (3 : Int32)  g rfl) ?_
    exact ev_wk (L := [some (.ref 1)]) (tj_Re_readLook_8    (f_Re_blame (3 : Int32) g) h) ⟨rfl, trivial⟩
def f_Pl_addDeaf (a0 : Nat) (p0 : Int32) (g : M2) : Option (M2) := (if (4 : Int32) ≤ (g.1 a0 5) then some g else (if inb (g.1 a0 5) 4 then some (uI (uI g (a0 + 2) (g.1 a0 5).toNatClampNeg p0) a0 5 (((uI g (a0 + 2) (g.1 a0 5).toNatClampNeg p0).1 a0 5) + (1 : Int32))) else none))
theorem e_Pl_addDeaf {Lx : Nat} (a0 : Nat) (p0 : Int32) (ha0 : IsPlan a0) (g : M2) {b : M2} (h : f_Pl_addDeaf a0 p0 g = some b) : Ev Lx 35 cd_35 0 [some (.ref a0), some (.int p0)] [] g (none, b) := by
  unfold f_Pl_addDeaf at h
  refine ev_rn (n := 1) (i2 := 1) (L2 := [some (.ref a0), some (.int p0)]) (st2 := [.ref a0]) (g2 := g) cdE_35 rfl ?_
  refine ev_gf (v := .int (g.1 a0 5)) rfl (pl_at ha0) (by decide) rfl ?_
  refine ev_rn (n := 1) (i2 := 3) (L2 := [some (.ref a0), some (.int p0)]) (st2 := [.int (4 : Int32), .int (g.1 a0 5)]) (g2 := g) cdE_35 rfl ?_
  by_cases hc1 : (4 : Int32) ≤ (g.1 a0 5)
  · rw [if_pos hc1] at h
    refine ev_ift cdE_35 rfl (cn_t hc1) ?_
    cases h
    exact ev_ret rfl rfl
  · rw [if_neg hc1] at h
    refine ev_iff rfl (cn_f hc1) ?_
    refine ev_rn (n := 1) (i2 := 5) (L2 := [some (.ref a0), some (.int p0)]) (st2 := [.ref a0]) (g2 := g) cdE_35 rfl ?_
    refine ev_gf (v := .ref (a0 + 2)) rfl (pl_at ha0) (by decide) rfl ?_
    refine ev_rn (n := 1) (i2 := 7) (L2 := [some (.ref a0), some (.int p0)]) (st2 := [.ref a0, .ref (a0 + 2)]) (g2 := g) cdE_35 rfl ?_
    refine ev_gf (v := .int (g.1 a0 5)) rfl (pl_at ha0) (by decide) rfl ?_
    refine ev_rn (n := 1) (i2 := 9) (L2 := [some (.ref a0), some (.int p0)]) (st2 := [.int p0, .int (g.1 a0 5), .ref (a0 + 2)]) (g2 := g) cdE_35 rfl ?_
    by_cases hi2 : inb (g.1 a0 5) 4
    · rw [if_pos hi2] at h
      refine ev_iastore (g2 := (uI g (a0 + 2) (g.1 a0 5).toNatClampNeg p0)) rfl (pl_2 ha0) (by decide) hi2 rfl ?_
      refine ev_rn (n := 2) (i2 := 12) (L2 := [some (.ref a0), some (.int p0)]) (st2 := [.ref a0, .ref a0]) (g2 := (uI g (a0 + 2) (g.1 a0 5).toNatClampNeg p0)) cdE_35 rfl ?_
      refine ev_gf (v := .int ((uI g (a0 + 2) (g.1 a0 5).toNatClampNeg p0).1 a0 5)) rfl (pl_at ha0) (by decide) rfl ?_
      refine ev_rn (n := 2) (i2 := 15) (L2 := [some (.ref a0), some (.int p0)]) (st2 := [.int (((uI g (a0 + 2) (g.1 a0 5).toNatClampNeg p0).1 a0 5) + (1 : Int32)), .ref a0]) (g2 := (uI g (a0 + 2) (g.1 a0 5).toNatClampNeg p0)) cdE_35 rfl ?_
      refine ev_pf (g2 := (uI (uI g (a0 + 2) (g.1 a0 5).toNatClampNeg p0) a0 5 (((uI g (a0 + 2) (g.1 a0 5).toNatClampNeg p0).1 a0 5) + (1 : Int32)))) rfl (pl_at ha0) (by decide) rfl ?_
      cases h
      exact ev_ret rfl rfl
    · rw [if_neg hi2] at h
      cases h
def j_Re_readDeaf_8  (g : M2) : Option (M2) := ((f_Re_nextToken g).bind fun q2 => ((f_Re_expectDirection q2).bind fun q3 => (if q3.1 = 0 then some q3.2 else ((f_Pl_addDeaf 3 (q3.2.1 1 6) q3.2).bind fun q5 => ((f_Re_nextToken q5).bind fun q6 => some q6)))))
theorem tj_Re_readDeaf_8 {Lx : Nat}    (g : M2) {b : M2} (h : j_Re_readDeaf_8  g = some b) : Ev Lx 36 cd_36 8 [some (.ref 1)] [] g (none, b) := by
  unfold j_Re_readDeaf_8 at h
  refine ev_rn (n := 1) (i2 := 9) (L2 := [some (.ref 1)]) (st2 := [.ref 1]) (g2 := g) cdE_36 rfl ?_
  obtain ⟨q2, hq2, h⟩ := Option.bind_eq_some_iff.mp h
  refine ev_call rfl cdE_22 rfl rfl rfl (e_Re_nextToken   g hq2) ?_
  refine ev_rn (n := 1) (i2 := 11) (L2 := [some (.ref 1)]) (st2 := [.ref 1]) (g2 := q2) cdE_36 rfl ?_
  obtain ⟨q3, hq3, h⟩ := Option.bind_eq_some_iff.mp h
  refine ev_call rfl cdE_33 rfl rfl rfl (e_Re_expectDirection   q2 hq3) ?_
  by_cases hc4 : q3.1 = 0
  · rw [if_pos hc4] at h
    refine ev_zft cdE_36 rfl (cn_t hc4) ?_
    cases h
    exact ev_ret rfl rfl
  · rw [if_neg hc4] at h
    refine ev_zff rfl (cn_f hc4) ?_
    refine ev_rn (n := 4) (i2 := 17) (L2 := [some (.ref 1)]) (st2 := [.int (q3.2.1 1 6), .ref 3]) (g2 := q3.2) cdE_36 rfl ?_
    obtain ⟨q5, hq5, h⟩ := Option.bind_eq_some_iff.mp h
    refine ev_call rfl cdE_35 rfl rfl rfl (e_Pl_addDeaf 3 (q3.2.1 1 6) (by decide) q3.2 hq5) ?_
    refine ev_rn (n := 1) (i2 := 19) (L2 := [some (.ref 1)]) (st2 := [.ref 1]) (g2 := q5) cdE_36 rfl ?_
    obtain ⟨q6, hq6, h⟩ := Option.bind_eq_some_iff.mp h
    refine ev_call rfl cdE_22 rfl rfl rfl (e_Re_nextToken   q5 hq6) ?_
    cases h
    exact ev_ret rfl rfl
def f_Re_readDeaf  (g : M2) : Option (M2) := (if (g.1 3 5) = (4 : Int32) then (j_Re_readDeaf_8  (f_Re_blame (3 : Int32) g)) else (j_Re_readDeaf_8  g))
theorem e_Re_readDeaf {Lx : Nat}   (g : M2) {b : M2} (h : f_Re_readDeaf  g = some b) : Ev Lx 36 cd_36 0 [some (.ref 1)] [] g (none, b) := by
  unfold f_Re_readDeaf at h
  refine ev_rn (n := 4) (i2 := 4) (L2 := [some (.ref 1)]) (st2 := [.int (4 : Int32), .int (g.1 3 5)]) (g2 := g) cdE_36 rfl ?_
  by_cases hc1 : (g.1 3 5) = (4 : Int32)
  · rw [if_pos hc1] at h
    refine ev_iff rfl (cn_f (fun q => q hc1)) ?_
    refine ev_rn (n := 2) (i2 := 7) (L2 := [some (.ref 1)]) (st2 := [.int (3 : Int32), .ref 1]) (g2 := g) cdE_36 rfl ?_
    refine ev_call rfl cdE_24 rfl rfl rfl (e_Re_blame (3 : Int32)  g rfl) ?_
    exact ev_wk (L := [some (.ref 1)]) (tj_Re_readDeaf_8    (f_Re_blame (3 : Int32) g) h) ⟨rfl, trivial⟩
  · rw [if_neg hc1] at h
    refine ev_ift cdE_36 rfl (cn_t hc1) ?_
    exact ev_wk (L := [some (.ref 1)]) (tj_Re_readDeaf_8    g h) ⟨rfl, trivial⟩
def f_Re_readLine  (g : M2) : Option (M2) := ((f_Re_isWord 1005 g).bind fun q1 => (if q1 = 0 then ((f_Re_isWord 1006 g).bind fun q5 => (if q5 = 0 then ((f_Re_isWord 1007 g).bind fun q7 => (if q7 = 0 then ((f_Re_isWord 1008 g).bind fun q9 => (if q9 = 0 then some (f_Re_blame (1 : Int32) g) else ((f_Re_readDeaf g).bind fun q11 => some q11))) else ((f_Re_readLook g).bind fun q12 => some q12))) else ((f_Re_isWord 1006 g).bind fun q13 => ((f_Re_readElement q13 g).bind fun q14 => some q14)))) else ((f_Re_isWord 1006 g).bind fun q3 => ((f_Re_readElement q3 g).bind fun q4 => some q4))))
theorem e_Re_readLine {Lx : Nat}   (g : M2) {b : M2} (h : f_Re_readLine  g = some b) : Ev Lx 37 cd_37 0 [some (.ref 1)] [] g (none, b) := by
  unfold f_Re_readLine at h
  refine ev_rn (n := 2) (i2 := 2) (L2 := [some (.ref 1)]) (st2 := [.ref 1005, .ref 1]) (g2 := g) cdE_37 rfl ?_
  obtain ⟨q1, hq1, h⟩ := Option.bind_eq_some_iff.mp h
  refine ev_call rfl cdE_23 rfl rfl rfl (e_Re_isWord 1005 (by decide) g hq1) ?_
  by_cases hc2 : q1 = 0
  · rw [if_pos hc2] at h
    refine ev_zff rfl (cn_f (fun q => q hc2)) ?_
    refine ev_rn (n := 2) (i2 := 6) (L2 := [some (.ref 1)]) (st2 := [.ref 1006, .ref 1]) (g2 := g) cdE_37 rfl ?_
    obtain ⟨q5, hq5, h⟩ := Option.bind_eq_some_iff.mp h
    refine ev_call rfl cdE_23 rfl rfl rfl (e_Re_isWord 1006 (by decide) g hq5) ?_
    by_cases hc6 : q5 = 0
    · rw [if_pos hc6] at h
      refine ev_zft cdE_37 rfl (cn_t hc6) ?_
      refine ev_rn (n := 2) (i2 := 16) (L2 := [some (.ref 1)]) (st2 := [.ref 1007, .ref 1]) (g2 := g) cdE_37 rfl ?_
      obtain ⟨q7, hq7, h⟩ := Option.bind_eq_some_iff.mp h
      refine ev_call rfl cdE_23 rfl rfl rfl (e_Re_isWord 1007 (by decide) g hq7) ?_
      by_cases hc8 : q7 = 0
      · rw [if_pos hc8] at h
        refine ev_zft cdE_37 rfl (cn_t hc8) ?_
        refine ev_rn (n := 2) (i2 := 23) (L2 := [some (.ref 1)]) (st2 := [.ref 1008, .ref 1]) (g2 := g) cdE_37 rfl ?_
        obtain ⟨q9, hq9, h⟩ := Option.bind_eq_some_iff.mp h
        refine ev_call rfl cdE_23 rfl rfl rfl (e_Re_isWord 1008 (by decide) g hq9) ?_
        by_cases hc10 : q9 = 0
        · rw [if_pos hc10] at h
          refine ev_zft cdE_37 rfl (cn_t hc10) ?_
          refine ev_rn (n := 2) (i2 := 30) (L2 := [some (.ref 1)]) (st2 := [.int (1 : Int32), .ref 1]) (g2 := g) cdE_37 rfl ?_
          refine ev_call rfl cdE_24 rfl rfl rfl (e_Re_blame (1 : Int32)  g rfl) ?_
          cases h
          exact ev_ret rfl rfl
        · rw [if_neg hc10] at h
          refine ev_zff rfl (cn_f hc10) ?_
          refine ev_rn (n := 1) (i2 := 26) (L2 := [some (.ref 1)]) (st2 := [.ref 1]) (g2 := g) cdE_37 rfl ?_
          obtain ⟨q11, hq11, h⟩ := Option.bind_eq_some_iff.mp h
          refine ev_call rfl cdE_36 rfl rfl rfl (e_Re_readDeaf   g hq11) ?_
          refine ev_rn (n := 1) (i2 := 31) (L2 := [some (.ref 1)]) (st2 := []) (g2 := q11) cdE_37 rfl ?_
          cases h
          exact ev_ret rfl rfl
      · rw [if_neg hc8] at h
        refine ev_zff rfl (cn_f hc8) ?_
        refine ev_rn (n := 1) (i2 := 19) (L2 := [some (.ref 1)]) (st2 := [.ref 1]) (g2 := g) cdE_37 rfl ?_
        obtain ⟨q12, hq12, h⟩ := Option.bind_eq_some_iff.mp h
        refine ev_call rfl cdE_34 rfl rfl rfl (e_Re_readLook   g hq12) ?_
        refine ev_rn (n := 1) (i2 := 31) (L2 := [some (.ref 1)]) (st2 := []) (g2 := q12) cdE_37 rfl ?_
        cases h
        exact ev_ret rfl rfl
    · rw [if_neg hc6] at h
      refine ev_zff rfl (cn_f hc6) ?_
      refine ev_rn (n := 3) (i2 := 11) (L2 := [some (.ref 1)]) (st2 := [.ref 1006, .ref 1, .ref 1]) (g2 := g) cdE_37 rfl ?_
      obtain ⟨q13, hq13, h⟩ := Option.bind_eq_some_iff.mp h
      refine ev_call rfl cdE_23 rfl rfl rfl (e_Re_isWord 1006 (by decide) g hq13) ?_
      obtain ⟨q14, hq14, h⟩ := Option.bind_eq_some_iff.mp h
      refine ev_call rfl cdE_30 rfl rfl rfl (e_Re_readElement q13  g hq14) ?_
      refine ev_rn (n := 1) (i2 := 31) (L2 := [some (.ref 1)]) (st2 := []) (g2 := q14) cdE_37 rfl ?_
      cases h
      exact ev_ret rfl rfl
  · rw [if_neg hc2] at h
    refine ev_zft cdE_37 rfl (cn_t hc2) ?_
    refine ev_rn (n := 3) (i2 := 11) (L2 := [some (.ref 1)]) (st2 := [.ref 1006, .ref 1, .ref 1]) (g2 := g) cdE_37 rfl ?_
    obtain ⟨q3, hq3, h⟩ := Option.bind_eq_some_iff.mp h
    refine ev_call rfl cdE_23 rfl rfl rfl (e_Re_isWord 1006 (by decide) g hq3) ?_
    obtain ⟨q4, hq4, h⟩ := Option.bind_eq_some_iff.mp h
    refine ev_call rfl cdE_30 rfl rfl rfl (e_Re_readElement q3  g hq4) ?_
    refine ev_rn (n := 1) (i2 := 31) (L2 := [some (.ref 1)]) (st2 := []) (g2 := q4) cdE_37 rfl ?_
    cases h
    exact ev_ret rfl rfl
def f_Re_expectSign  (g : M2) : Option (M2) := (if (g.1 1 5) = (3 : Int32) then ((f_Re_nextToken (uI g 3 7 ((g.1 3 7) + (1 : Int32)))).bind fun q2 => some q2) else ((f_Re_nextToken (uI (f_Re_blame (1 : Int32) g) 3 7 (((f_Re_blame (1 : Int32) g).1 3 7) + (1 : Int32)))).bind fun q3 => some q3))
theorem e_Re_expectSign {Lx : Nat}   (g : M2) {b : M2} (h : f_Re_expectSign  g = some b) : Ev Lx 38 cd_38 0 [some (.ref 1)] [] g (none, b) := by
  unfold f_Re_expectSign at h
  refine ev_rn (n := 3) (i2 := 3) (L2 := [some (.ref 1)]) (st2 := [.int (3 : Int32), .int (g.1 1 5)]) (g2 := g) cdE_38 rfl ?_
  by_cases hc1 : (g.1 1 5) = (3 : Int32)
  · rw [if_pos hc1] at h
    refine ev_ift cdE_38 rfl (cn_t hc1) ?_
    refine ev_rn (n := 8) (i2 := 15) (L2 := [some (.ref 1)]) (st2 := [.ref 1]) (g2 := (uI g 3 7 ((g.1 3 7) + (1 : Int32)))) cdE_38 rfl ?_
    obtain ⟨q2, hq2, h⟩ := Option.bind_eq_some_iff.mp h
    refine ev_call rfl cdE_22 rfl rfl rfl (e_Re_nextToken   (uI g 3 7 ((g.1 3 7) + (1 : Int32))) hq2) ?_
    cases h
    exact ev_ret rfl rfl
  · rw [if_neg hc1] at h
    refine ev_iff rfl (cn_f hc1) ?_
    refine ev_rn (n := 2) (i2 := 6) (L2 := [some (.ref 1)]) (st2 := [.int (1 : Int32), .ref 1]) (g2 := g) cdE_38 rfl ?_
    refine ev_call rfl cdE_24 rfl rfl rfl (e_Re_blame (1 : Int32)  g rfl) ?_
    refine ev_rn (n := 8) (i2 := 15) (L2 := [some (.ref 1)]) (st2 := [.ref 1]) (g2 := (uI (f_Re_blame (1 : Int32) g) 3 7 (((f_Re_blame (1 : Int32) g).1 3 7) + (1 : Int32)))) cdE_38 rfl ?_
    obtain ⟨q3, hq3, h⟩ := Option.bind_eq_some_iff.mp h
    refine ev_call rfl cdE_22 rfl rfl rfl (e_Re_nextToken   (uI (f_Re_blame (1 : Int32) g) 3 7 (((f_Re_blame (1 : Int32) g).1 3 7) + (1 : Int32))) hq3) ?_
    cases h
    exact ev_ret rfl rfl
def b_Re_readText_16  (v1 : Int32) (g : M2) : Option ((Int32 × M2) ⊕ M2) := (if (300 : Int32) < v1 then some (.inr g) else (if (g.1 1 7) = 0 then (if (g.1 1 5) = 0 then some (.inr g) else (if (g.1 3 7) = 0 then ((f_Re_readFirstLine g).bind fun q8 => ((f_Re_expectSign q8).bind fun q9 => some (.inl ((v1 + (1 : Int32)), q9)))) else ((f_Re_readLine g).bind fun q6 => ((f_Re_expectSign q6).bind fun q7 => some (.inl ((v1 + (1 : Int32)), q7)))))) else some (.inr g)))
theorem tb_Re_readText_16 {Lx : Nat}   (v1 : Int32) (g : M2) {b : (Int32 × M2) ⊕ M2} {o : Option Value × M2} (h : b_Re_readText_16 v1 g = some b) (hb : Sum.elim (fun s => Ev Lx 39 cd_39 16 [some (.ref 1), some (.int s.1)] [] s.2 o) (fun e => Ev Lx 39 cd_39 38 [] [] e o) b) : Ev Lx 39 cd_39 16 [some (.ref 1), some (.int v1)] [] g o := by
  unfold b_Re_readText_16 at h
  refine ev_rn (n := 2) (i2 := 18) (L2 := [some (.ref 1), some (.int v1)]) (st2 := [.int (300 : Int32), .int v1]) (g2 := g) cdE_39 rfl ?_
  by_cases hc2 : (300 : Int32) < v1
  · rw [if_pos hc2] at h
    refine ev_ift cdE_39 rfl (cn_t hc2) ?_
    cases h
    exact ev_wk (L := []) hb trivial
  · rw [if_neg hc2] at h
    refine ev_iff rfl (cn_f hc2) ?_
    refine ev_rn (n := 2) (i2 := 21) (L2 := [some (.ref 1), some (.int v1)]) (st2 := [.int (g.1 1 7)]) (g2 := g) cdE_39 rfl ?_
    by_cases hc3 : (g.1 1 7) = 0
    · rw [if_pos hc3] at h
      refine ev_zff rfl (cn_f (fun q => q hc3)) ?_
      refine ev_rn (n := 2) (i2 := 24) (L2 := [some (.ref 1), some (.int v1)]) (st2 := [.int (g.1 1 5)]) (g2 := g) cdE_39 rfl ?_
      by_cases hc4 : (g.1 1 5) = 0
      · rw [if_pos hc4] at h
        refine ev_zft cdE_39 rfl (cn_t hc4) ?_
        cases h
        exact ev_wk (L := []) hb trivial
      · rw [if_neg hc4] at h
        refine ev_zff rfl (cn_f hc4) ?_
        refine ev_rn (n := 3) (i2 := 28) (L2 := [some (.ref 1), some (.int v1)]) (st2 := [.int (g.1 3 7)]) (g2 := g) cdE_39 rfl ?_
        by_cases hc5 : (g.1 3 7) = 0
        · rw [if_pos hc5] at h
          refine ev_zff rfl (cn_f (fun q => q hc5)) ?_
          refine ev_rn (n := 1) (i2 := 30) (L2 := [some (.ref 1), some (.int v1)]) (st2 := [.ref 1]) (g2 := g) cdE_39 rfl ?_
          obtain ⟨q8, hq8, h⟩ := Option.bind_eq_some_iff.mp h
          refine ev_call rfl cdE_27 rfl rfl rfl (e_Re_readFirstLine   g hq8) ?_
          refine ev_rn (n := 2) (i2 := 35) (L2 := [some (.ref 1), some (.int v1)]) (st2 := [.ref 1]) (g2 := q8) cdE_39 rfl ?_
          obtain ⟨q9, hq9, h⟩ := Option.bind_eq_some_iff.mp h
          refine ev_call rfl cdE_38 rfl rfl rfl (e_Re_expectSign   q8 hq9) ?_
          refine ev_rn (n := 2) (i2 := 16) (L2 := [some (.ref 1), some (.int (v1 + (1 : Int32)))]) (st2 := []) (g2 := q9) cdE_39 rfl ?_
          cases h
          exact ev_wk (L := [some (.ref 1), some (.int (v1 + (1 : Int32)))]) hb ⟨rfl, ⟨rfl, trivial⟩⟩
        · rw [if_neg hc5] at h
          refine ev_zft cdE_39 rfl (cn_t hc5) ?_
          refine ev_rn (n := 1) (i2 := 33) (L2 := [some (.ref 1), some (.int v1)]) (st2 := [.ref 1]) (g2 := g) cdE_39 rfl ?_
          obtain ⟨q6, hq6, h⟩ := Option.bind_eq_some_iff.mp h
          refine ev_call rfl cdE_37 rfl rfl rfl (e_Re_readLine   g hq6) ?_
          refine ev_rn (n := 1) (i2 := 35) (L2 := [some (.ref 1), some (.int v1)]) (st2 := [.ref 1]) (g2 := q6) cdE_39 rfl ?_
          obtain ⟨q7, hq7, h⟩ := Option.bind_eq_some_iff.mp h
          refine ev_call rfl cdE_38 rfl rfl rfl (e_Re_expectSign   q6 hq7) ?_
          refine ev_rn (n := 2) (i2 := 16) (L2 := [some (.ref 1), some (.int (v1 + (1 : Int32)))]) (st2 := []) (g2 := q7) cdE_39 rfl ?_
          cases h
          exact ev_wk (L := [some (.ref 1), some (.int (v1 + (1 : Int32)))]) hb ⟨rfl, ⟨rfl, trivial⟩⟩
    · rw [if_neg hc3] at h
      refine ev_zft cdE_39 rfl (cn_t hc3) ?_
      cases h
      exact ev_wk (L := []) hb trivial
def f_Re_readText  (g : M2) : Option (M2) := ((f_Re_nextToken (uI (uI (uI (f_Pl_clear 3 g) 1 7 (0 : Int32)) 1 8 (-1 : Int32)) 1 3 (0 : Int32))).bind fun q1 => ((lp (fun s => b_Re_readText_16  s.1 s.2) 5000 ((0 : Int32), q1)).bind fun e10 => some e10))
theorem e_Re_readText {Lx : Nat}   (g : M2) {b : M2} (h : f_Re_readText  g = some b) : Ev Lx 39 cd_39 0 [some (.ref 1)] [] g (none, b) := by
  unfold f_Re_readText at h
  refine ev_rn (n := 2) (i2 := 2) (L2 := [some (.ref 1)]) (st2 := [.ref 3]) (g2 := g) cdE_39 rfl ?_
  refine ev_call rfl cdE_18 rfl rfl rfl (e_Pl_clear 3 (by decide) g rfl) ?_
  refine ev_rn (n := 10) (i2 := 13) (L2 := [some (.ref 1)]) (st2 := [.ref 1]) (g2 := (uI (uI (uI (f_Pl_clear 3 g) 1 7 (0 : Int32)) 1 8 (-1 : Int32)) 1 3 (0 : Int32))) cdE_39 rfl ?_
  obtain ⟨q1, hq1, h⟩ := Option.bind_eq_some_iff.mp h
  refine ev_call rfl cdE_22 rfl rfl rfl (e_Re_nextToken   (uI (uI (uI (f_Pl_clear 3 g) 1 7 (0 : Int32)) 1 8 (-1 : Int32)) 1 3 (0 : Int32)) hq1) ?_
  refine ev_rn (n := 2) (i2 := 16) (L2 := [some (.ref 1), some (.int (0 : Int32))]) (st2 := []) (g2 := q1) cdE_39 rfl ?_
  obtain ⟨e10, he10, h⟩ := Option.bind_eq_some_iff.mp h
  have hX11 : Ev Lx 39 cd_39 38 [] [] e10 (none, b) := by
    cases h
    exact ev_ret rfl rfl
  exact ev_wk (L := [some (.ref 1), some (.int (0 : Int32))]) (lp_ind (P := (fun (s : (Int32 × M2)) => Ev Lx 39 cd_39 16 [some (.ref 1), some (.int s.1)] [] s.2 (none, b))) (fun s s2 hs hP => tb_Re_readText_16   s.1 s.2 (b := .inl s2) hs hP) (fun s hs => tb_Re_readText_16   s.1 s.2 (b := .inr e10) hs hX11) _ _ he10) ⟨rfl, ⟨rfl, trivial⟩⟩
def b_Pl_copy_2 (v0 : Nat) (v1 : Nat) (v2 : Int32) (g : M2) : Option ((Int32 × M2) ⊕ M2) := (if (5 : Int32) ≤ v2 then some (.inr g) else (if inb v2 5 then (if inb v2 5 then some (.inl ((v2 + (1 : Int32)), (uI g (v0 + 1) v2.toNatClampNeg (g.1 (v1 + 1) v2.toNatClampNeg)))) else none) else none))
theorem tb_Pl_copy_2 {Lx : Nat} (v0 : Nat) (v1 : Nat) (hv0 : IsPlan v0) (hv1 : IsPlan v1) (v2 : Int32) (g : M2) {b : (Int32 × M2) ⊕ M2} {o : Option Value × M2} (h : b_Pl_copy_2 v0 v1 v2 g = some b) (hb : Sum.elim (fun s => Ev Lx 40 cd_40 2 [some (.ref v0), some (.ref v1), some (.int s.1)] [] s.2 o) (fun e => Ev Lx 40 cd_40 15 [some (.ref v0), some (.ref v1)] [] e o) b) : Ev Lx 40 cd_40 2 [some (.ref v0), some (.ref v1), some (.int v2)] [] g o := by
  unfold b_Pl_copy_2 at h
  refine ev_rn (n := 2) (i2 := 4) (L2 := [some (.ref v0), some (.ref v1), some (.int v2)]) (st2 := [.int (5 : Int32), .int v2]) (g2 := g) cdE_40 rfl ?_
  by_cases hc1 : (5 : Int32) ≤ v2
  · rw [if_pos hc1] at h
    refine ev_ift cdE_40 rfl (cn_t hc1) ?_
    cases h
    exact ev_wk (L := [some (.ref v0), some (.ref v1)]) hb ⟨rfl, ⟨rfl, trivial⟩⟩
  · rw [if_neg hc1] at h
    refine ev_iff rfl (cn_f hc1) ?_
    refine ev_rn (n := 1) (i2 := 6) (L2 := [some (.ref v0), some (.ref v1), some (.int v2)]) (st2 := [.ref v0]) (g2 := g) cdE_40 rfl ?_
    refine ev_gf (v := .ref (v0 + 1)) rfl (pl_at hv0) (by decide) rfl ?_
    refine ev_rn (n := 2) (i2 := 9) (L2 := [some (.ref v0), some (.ref v1), some (.int v2)]) (st2 := [.ref v1, .int v2, .ref (v0 + 1)]) (g2 := g) cdE_40 rfl ?_
    refine ev_gf (v := .ref (v1 + 1)) rfl (pl_at hv1) (by decide) rfl ?_
    refine ev_rn (n := 1) (i2 := 11) (L2 := [some (.ref v0), some (.ref v1), some (.int v2)]) (st2 := [.int v2, .ref (v1 + 1), .int v2, .ref (v0 + 1)]) (g2 := g) cdE_40 rfl ?_
    by_cases hi2 : inb v2 5
    · rw [if_pos hi2] at h
      refine ev_iaload (v := .int (g.1 (v1 + 1) v2.toNatClampNeg)) rfl (kd_of (pl_1 hv1)) (by decide) hi2 rfl ?_
      by_cases hi3 : inb v2 5
      · rw [if_pos hi3] at h
        refine ev_iastore (g2 := (uI g (v0 + 1) v2.toNatClampNeg (g.1 (v1 + 1) v2.toNatClampNeg))) rfl (pl_1 hv0) (by decide) hi3 rfl ?_
        refine ev_rn (n := 2) (i2 := 2) (L2 := [some (.ref v0), some (.ref v1), some (.int (v2 + (1 : Int32)))]) (st2 := []) (g2 := (uI g (v0 + 1) v2.toNatClampNeg (g.1 (v1 + 1) v2.toNatClampNeg))) cdE_40 rfl ?_
        cases h
        exact ev_wk (L := [some (.ref v0), some (.ref v1), some (.int (v2 + (1 : Int32)))]) hb ⟨rfl, ⟨rfl, ⟨rfl, trivial⟩⟩⟩
      · rw [if_neg hi3] at h
        cases h
    · rw [if_neg hi2] at h
      cases h
def b_Pl_copy_17 (v0 : Nat) (v1 : Nat) (v2 : Int32) (g : M2) : Option ((Int32 × M2) ⊕ M2) := (if (4 : Int32) ≤ v2 then some (.inr g) else (if inb v2 4 then (if inb v2 4 then some (.inl ((v2 + (1 : Int32)), (uI g (v0 + 2) v2.toNatClampNeg (g.1 (v1 + 2) v2.toNatClampNeg)))) else none) else none))
theorem tb_Pl_copy_17 {Lx : Nat} (v0 : Nat) (v1 : Nat) (hv0 : IsPlan v0) (hv1 : IsPlan v1) (v2 : Int32) (g : M2) {b : (Int32 × M2) ⊕ M2} {o : Option Value × M2} (h : b_Pl_copy_17 v0 v1 v2 g = some b) (hb : Sum.elim (fun s => Ev Lx 40 cd_40 17 [some (.ref v0), some (.ref v1), some (.int s.1)] [] s.2 o) (fun e => Ev Lx 40 cd_40 30 [some (.ref v0), some (.ref v1)] [] e o) b) : Ev Lx 40 cd_40 17 [some (.ref v0), some (.ref v1), some (.int v2)] [] g o := by
  unfold b_Pl_copy_17 at h
  refine ev_rn (n := 2) (i2 := 19) (L2 := [some (.ref v0), some (.ref v1), some (.int v2)]) (st2 := [.int (4 : Int32), .int v2]) (g2 := g) cdE_40 rfl ?_
  by_cases hc5 : (4 : Int32) ≤ v2
  · rw [if_pos hc5] at h
    refine ev_ift cdE_40 rfl (cn_t hc5) ?_
    cases h
    exact ev_wk (L := [some (.ref v0), some (.ref v1)]) hb ⟨rfl, ⟨rfl, trivial⟩⟩
  · rw [if_neg hc5] at h
    refine ev_iff rfl (cn_f hc5) ?_
    refine ev_rn (n := 1) (i2 := 21) (L2 := [some (.ref v0), some (.ref v1), some (.int v2)]) (st2 := [.ref v0]) (g2 := g) cdE_40 rfl ?_
    refine ev_gf (v := .ref (v0 + 2)) rfl (pl_at hv0) (by decide) rfl ?_
    refine ev_rn (n := 2) (i2 := 24) (L2 := [some (.ref v0), some (.ref v1), some (.int v2)]) (st2 := [.ref v1, .int v2, .ref (v0 + 2)]) (g2 := g) cdE_40 rfl ?_
    refine ev_gf (v := .ref (v1 + 2)) rfl (pl_at hv1) (by decide) rfl ?_
    refine ev_rn (n := 1) (i2 := 26) (L2 := [some (.ref v0), some (.ref v1), some (.int v2)]) (st2 := [.int v2, .ref (v1 + 2), .int v2, .ref (v0 + 2)]) (g2 := g) cdE_40 rfl ?_
    by_cases hi6 : inb v2 4
    · rw [if_pos hi6] at h
      refine ev_iaload (v := .int (g.1 (v1 + 2) v2.toNatClampNeg)) rfl (kd_of (pl_2 hv1)) (by decide) hi6 rfl ?_
      by_cases hi7 : inb v2 4
      · rw [if_pos hi7] at h
        refine ev_iastore (g2 := (uI g (v0 + 2) v2.toNatClampNeg (g.1 (v1 + 2) v2.toNatClampNeg))) rfl (pl_2 hv0) (by decide) hi7 rfl ?_
        refine ev_rn (n := 2) (i2 := 17) (L2 := [some (.ref v0), some (.ref v1), some (.int (v2 + (1 : Int32)))]) (st2 := []) (g2 := (uI g (v0 + 2) v2.toNatClampNeg (g.1 (v1 + 2) v2.toNatClampNeg))) cdE_40 rfl ?_
        cases h
        exact ev_wk (L := [some (.ref v0), some (.ref v1), some (.int (v2 + (1 : Int32)))]) hb ⟨rfl, ⟨rfl, ⟨rfl, trivial⟩⟩⟩
      · rw [if_neg hi7] at h
        cases h
    · rw [if_neg hi6] at h
      cases h
def f_Pl_copy (a0 : Nat) (p0 : Nat) (g : M2) : Option (M2) := ((lp (fun s => b_Pl_copy_2 a0 p0 s.1 s.2) 5000 ((0 : Int32), g)).bind fun e4 => ((lp (fun s => b_Pl_copy_17 a0 p0 s.1 s.2) 5000 ((0 : Int32), e4)).bind fun e8 => some (uI (uI (uI (uI (uI (uI e8 a0 2 (e8.1 p0 2)) a0 3 ((uI e8 a0 2 (e8.1 p0 2)).1 p0 3)) a0 4 ((uI (uI e8 a0 2 (e8.1 p0 2)) a0 3 ((uI e8 a0 2 (e8.1 p0 2)).1 p0 3)).1 p0 4)) a0 5 ((uI (uI (uI e8 a0 2 (e8.1 p0 2)) a0 3 ((uI e8 a0 2 (e8.1 p0 2)).1 p0 3)) a0 4 ((uI (uI e8 a0 2 (e8.1 p0 2)) a0 3 ((uI e8 a0 2 (e8.1 p0 2)).1 p0 3)).1 p0 4)).1 p0 5)) a0 6 ((uI (uI (uI (uI e8 a0 2 (e8.1 p0 2)) a0 3 ((uI e8 a0 2 (e8.1 p0 2)).1 p0 3)) a0 4 ((uI (uI e8 a0 2 (e8.1 p0 2)) a0 3 ((uI e8 a0 2 (e8.1 p0 2)).1 p0 3)).1 p0 4)) a0 5 ((uI (uI (uI e8 a0 2 (e8.1 p0 2)) a0 3 ((uI e8 a0 2 (e8.1 p0 2)).1 p0 3)) a0 4 ((uI (uI e8 a0 2 (e8.1 p0 2)) a0 3 ((uI e8 a0 2 (e8.1 p0 2)).1 p0 3)).1 p0 4)).1 p0 5)).1 p0 6)) a0 7 ((uI (uI (uI (uI (uI e8 a0 2 (e8.1 p0 2)) a0 3 ((uI e8 a0 2 (e8.1 p0 2)).1 p0 3)) a0 4 ((uI (uI e8 a0 2 (e8.1 p0 2)) a0 3 ((uI e8 a0 2 (e8.1 p0 2)).1 p0 3)).1 p0 4)) a0 5 ((uI (uI (uI e8 a0 2 (e8.1 p0 2)) a0 3 ((uI e8 a0 2 (e8.1 p0 2)).1 p0 3)) a0 4 ((uI (uI e8 a0 2 (e8.1 p0 2)) a0 3 ((uI e8 a0 2 (e8.1 p0 2)).1 p0 3)).1 p0 4)).1 p0 5)) a0 6 ((uI (uI (uI (uI e8 a0 2 (e8.1 p0 2)) a0 3 ((uI e8 a0 2 (e8.1 p0 2)).1 p0 3)) a0 4 ((uI (uI e8 a0 2 (e8.1 p0 2)) a0 3 ((uI e8 a0 2 (e8.1 p0 2)).1 p0 3)).1 p0 4)) a0 5 ((uI (uI (uI e8 a0 2 (e8.1 p0 2)) a0 3 ((uI e8 a0 2 (e8.1 p0 2)).1 p0 3)) a0 4 ((uI (uI e8 a0 2 (e8.1 p0 2)) a0 3 ((uI e8 a0 2 (e8.1 p0 2)).1 p0 3)).1 p0 4)).1 p0 5)).1 p0 6)).1 p0 7))))
theorem e_Pl_copy {Lx : Nat} (a0 : Nat) (p0 : Nat) (ha0 : IsPlan a0) (hp0 : IsPlan p0) (g : M2) {b : M2} (h : f_Pl_copy a0 p0 g = some b) : Ev Lx 40 cd_40 0 [some (.ref a0), some (.ref p0)] [] g (none, b) := by
  unfold f_Pl_copy at h
  refine ev_rn (n := 2) (i2 := 2) (L2 := [some (.ref a0), some (.ref p0), some (.int (0 : Int32))]) (st2 := []) (g2 := g) cdE_40 rfl ?_
  obtain ⟨e4, he4, h⟩ := Option.bind_eq_some_iff.mp h
  have hX10 : Ev Lx 40 cd_40 15 [some (.ref a0), some (.ref p0)] [] e4 (none, b) := by
    refine ev_rn (n := 2) (i2 := 17) (L2 := [some (.ref a0), some (.ref p0), some (.int (0 : Int32))]) (st2 := []) (g2 := e4) cdE_40 rfl ?_
    obtain ⟨e8, he8, h⟩ := Option.bind_eq_some_iff.mp h
    have hX9 : Ev Lx 40 cd_40 30 [some (.ref a0), some (.ref p0)] [] e8 (none, b) := by
      refine ev_rn (n := 2) (i2 := 32) (L2 := [some (.ref a0), some (.ref p0)]) (st2 := [.ref p0, .ref a0]) (g2 := e8) cdE_40 rfl ?_
      refine ev_gf (v := .int (e8.1 p0 2)) rfl (pl_at hp0) (by decide) rfl ?_
      refine ev_pf (g2 := (uI e8 a0 2 (e8.1 p0 2))) rfl (pl_at ha0) (by decide) rfl ?_
      refine ev_rn (n := 2) (i2 := 36) (L2 := [some (.ref a0), some (.ref p0)]) (st2 := [.ref p0, .ref a0]) (g2 := (uI e8 a0 2 (e8.1 p0 2))) cdE_40 rfl ?_
      refine ev_gf (v := .int ((uI e8 a0 2 (e8.1 p0 2)).1 p0 3)) rfl (pl_at hp0) (by decide) rfl ?_
      refine ev_pf (g2 := (uI (uI e8 a0 2 (e8.1 p0 2)) a0 3 ((uI e8 a0 2 (e8.1 p0 2)).1 p0 3))) rfl (pl_at ha0) (by decide) rfl ?_
      refine ev_rn (n := 2) (i2 := 40) (L2 := [some (.ref a0), some (.ref p0)]) (st2 := [.ref p0, .ref a0]) (g2 := (uI (uI e8 a0 2 (e8.1 p0 2)) a0 3 ((uI e8 a0 2 (e8.1 p0 2)).1 p0 3))) cdE_40 rfl ?_
      refine ev_gf (v := .int ((uI (uI e8 a0 2 (e8.1 p0 2)) a0 3 ((uI e8 a0 2 (e8.1 p0 2)).1 p0 3)).1 p0 4)) rfl (pl_at hp0) (by decide) rfl ?_
      refine ev_pf (g2 := (uI (uI (uI e8 a0 2 (e8.1 p0 2)) a0 3 ((uI e8 a0 2 (e8.1 p0 2)).1 p0 3)) a0 4 ((uI (uI e8 a0 2 (e8.1 p0 2)) a0 3 ((uI e8 a0 2 (e8.1 p0 2)).1 p0 3)).1 p0 4))) rfl (pl_at ha0) (by decide) rfl ?_
      refine ev_rn (n := 2) (i2 := 44) (L2 := [some (.ref a0), some (.ref p0)]) (st2 := [.ref p0, .ref a0]) (g2 := (uI (uI (uI e8 a0 2 (e8.1 p0 2)) a0 3 ((uI e8 a0 2 (e8.1 p0 2)).1 p0 3)) a0 4 ((uI (uI e8 a0 2 (e8.1 p0 2)) a0 3 ((uI e8 a0 2 (e8.1 p0 2)).1 p0 3)).1 p0 4))) cdE_40 rfl ?_
      refine ev_gf (v := .int ((uI (uI (uI e8 a0 2 (e8.1 p0 2)) a0 3 ((uI e8 a0 2 (e8.1 p0 2)).1 p0 3)) a0 4 ((uI (uI e8 a0 2 (e8.1 p0 2)) a0 3 ((uI e8 a0 2 (e8.1 p0 2)).1 p0 3)).1 p0 4)).1 p0 5)) rfl (pl_at hp0) (by decide) rfl ?_
      refine ev_pf (g2 := (uI (uI (uI (uI e8 a0 2 (e8.1 p0 2)) a0 3 ((uI e8 a0 2 (e8.1 p0 2)).1 p0 3)) a0 4 ((uI (uI e8 a0 2 (e8.1 p0 2)) a0 3 ((uI e8 a0 2 (e8.1 p0 2)).1 p0 3)).1 p0 4)) a0 5 ((uI (uI (uI e8 a0 2 (e8.1 p0 2)) a0 3 ((uI e8 a0 2 (e8.1 p0 2)).1 p0 3)) a0 4 ((uI (uI e8 a0 2 (e8.1 p0 2)) a0 3 ((uI e8 a0 2 (e8.1 p0 2)).1 p0 3)).1 p0 4)).1 p0 5))) rfl (pl_at ha0) (by decide) rfl ?_
      refine ev_rn (n := 2) (i2 := 48) (L2 := [some (.ref a0), some (.ref p0)]) (st2 := [.ref p0, .ref a0]) (g2 := (uI (uI (uI (uI e8 a0 2 (e8.1 p0 2)) a0 3 ((uI e8 a0 2 (e8.1 p0 2)).1 p0 3)) a0 4 ((uI (uI e8 a0 2 (e8.1 p0 2)) a0 3 ((uI e8 a0 2 (e8.1 p0 2)).1 p0 3)).1 p0 4)) a0 5 ((uI (uI (uI e8 a0 2 (e8.1 p0 2)) a0 3 ((uI e8 a0 2 (e8.1 p0 2)).1 p0 3)) a0 4 ((uI (uI e8 a0 2 (e8.1 p0 2)) a0 3 ((uI e8 a0 2 (e8.1 p0 2)).1 p0 3)).1 p0 4)).1 p0 5))) cdE_40 rfl ?_
      refine ev_gf (v := .int ((uI (uI (uI (uI e8 a0 2 (e8.1 p0 2)) a0 3 ((uI e8 a0 2 (e8.1 p0 2)).1 p0 3)) a0 4 ((uI (uI e8 a0 2 (e8.1 p0 2)) a0 3 ((uI e8 a0 2 (e8.1 p0 2)).1 p0 3)).1 p0 4)) a0 5 ((uI (uI (uI e8 a0 2 (e8.1 p0 2)) a0 3 ((uI e8 a0 2 (e8.1 p0 2)).1 p0 3)) a0 4 ((uI (uI e8 a0 2 (e8.1 p0 2)) a0 3 ((uI e8 a0 2 (e8.1 p0 2)).1 p0 3)).1 p0 4)).1 p0 5)).1 p0 6)) rfl (pl_at hp0) (by decide) rfl ?_
      refine ev_pf (g2 := (uI (uI (uI (uI (uI e8 a0 2 (e8.1 p0 2)) a0 3 ((uI e8 a0 2 (e8.1 p0 2)).1 p0 3)) a0 4 ((uI (uI e8 a0 2 (e8.1 p0 2)) a0 3 ((uI e8 a0 2 (e8.1 p0 2)).1 p0 3)).1 p0 4)) a0 5 ((uI (uI (uI e8 a0 2 (e8.1 p0 2)) a0 3 ((uI e8 a0 2 (e8.1 p0 2)).1 p0 3)) a0 4 ((uI (uI e8 a0 2 (e8.1 p0 2)) a0 3 ((uI e8 a0 2 (e8.1 p0 2)).1 p0 3)).1 p0 4)).1 p0 5)) a0 6 ((uI (uI (uI (uI e8 a0 2 (e8.1 p0 2)) a0 3 ((uI e8 a0 2 (e8.1 p0 2)).1 p0 3)) a0 4 ((uI (uI e8 a0 2 (e8.1 p0 2)) a0 3 ((uI e8 a0 2 (e8.1 p0 2)).1 p0 3)).1 p0 4)) a0 5 ((uI (uI (uI e8 a0 2 (e8.1 p0 2)) a0 3 ((uI e8 a0 2 (e8.1 p0 2)).1 p0 3)) a0 4 ((uI (uI e8 a0 2 (e8.1 p0 2)) a0 3 ((uI e8 a0 2 (e8.1 p0 2)).1 p0 3)).1 p0 4)).1 p0 5)).1 p0 6))) rfl (pl_at ha0) (by decide) rfl ?_
      refine ev_rn (n := 2) (i2 := 52) (L2 := [some (.ref a0), some (.ref p0)]) (st2 := [.ref p0, .ref a0]) (g2 := (uI (uI (uI (uI (uI e8 a0 2 (e8.1 p0 2)) a0 3 ((uI e8 a0 2 (e8.1 p0 2)).1 p0 3)) a0 4 ((uI (uI e8 a0 2 (e8.1 p0 2)) a0 3 ((uI e8 a0 2 (e8.1 p0 2)).1 p0 3)).1 p0 4)) a0 5 ((uI (uI (uI e8 a0 2 (e8.1 p0 2)) a0 3 ((uI e8 a0 2 (e8.1 p0 2)).1 p0 3)) a0 4 ((uI (uI e8 a0 2 (e8.1 p0 2)) a0 3 ((uI e8 a0 2 (e8.1 p0 2)).1 p0 3)).1 p0 4)).1 p0 5)) a0 6 ((uI (uI (uI (uI e8 a0 2 (e8.1 p0 2)) a0 3 ((uI e8 a0 2 (e8.1 p0 2)).1 p0 3)) a0 4 ((uI (uI e8 a0 2 (e8.1 p0 2)) a0 3 ((uI e8 a0 2 (e8.1 p0 2)).1 p0 3)).1 p0 4)) a0 5 ((uI (uI (uI e8 a0 2 (e8.1 p0 2)) a0 3 ((uI e8 a0 2 (e8.1 p0 2)).1 p0 3)) a0 4 ((uI (uI e8 a0 2 (e8.1 p0 2)) a0 3 ((uI e8 a0 2 (e8.1 p0 2)).1 p0 3)).1 p0 4)).1 p0 5)).1 p0 6))) cdE_40 rfl ?_
      refine ev_gf (v := .int ((uI (uI (uI (uI (uI e8 a0 2 (e8.1 p0 2)) a0 3 ((uI e8 a0 2 (e8.1 p0 2)).1 p0 3)) a0 4 ((uI (uI e8 a0 2 (e8.1 p0 2)) a0 3 ((uI e8 a0 2 (e8.1 p0 2)).1 p0 3)).1 p0 4)) a0 5 ((uI (uI (uI e8 a0 2 (e8.1 p0 2)) a0 3 ((uI e8 a0 2 (e8.1 p0 2)).1 p0 3)) a0 4 ((uI (uI e8 a0 2 (e8.1 p0 2)) a0 3 ((uI e8 a0 2 (e8.1 p0 2)).1 p0 3)).1 p0 4)).1 p0 5)) a0 6 ((uI (uI (uI (uI e8 a0 2 (e8.1 p0 2)) a0 3 ((uI e8 a0 2 (e8.1 p0 2)).1 p0 3)) a0 4 ((uI (uI e8 a0 2 (e8.1 p0 2)) a0 3 ((uI e8 a0 2 (e8.1 p0 2)).1 p0 3)).1 p0 4)) a0 5 ((uI (uI (uI e8 a0 2 (e8.1 p0 2)) a0 3 ((uI e8 a0 2 (e8.1 p0 2)).1 p0 3)) a0 4 ((uI (uI e8 a0 2 (e8.1 p0 2)) a0 3 ((uI e8 a0 2 (e8.1 p0 2)).1 p0 3)).1 p0 4)).1 p0 5)).1 p0 6)).1 p0 7)) rfl (pl_at hp0) (by decide) rfl ?_
      refine ev_pf (g2 := (uI (uI (uI (uI (uI (uI e8 a0 2 (e8.1 p0 2)) a0 3 ((uI e8 a0 2 (e8.1 p0 2)).1 p0 3)) a0 4 ((uI (uI e8 a0 2 (e8.1 p0 2)) a0 3 ((uI e8 a0 2 (e8.1 p0 2)).1 p0 3)).1 p0 4)) a0 5 ((uI (uI (uI e8 a0 2 (e8.1 p0 2)) a0 3 ((uI e8 a0 2 (e8.1 p0 2)).1 p0 3)) a0 4 ((uI (uI e8 a0 2 (e8.1 p0 2)) a0 3 ((uI e8 a0 2 (e8.1 p0 2)).1 p0 3)).1 p0 4)).1 p0 5)) a0 6 ((uI (uI (uI (uI e8 a0 2 (e8.1 p0 2)) a0 3 ((uI e8 a0 2 (e8.1 p0 2)).1 p0 3)) a0 4 ((uI (uI e8 a0 2 (e8.1 p0 2)) a0 3 ((uI e8 a0 2 (e8.1 p0 2)).1 p0 3)).1 p0 4)) a0 5 ((uI (uI (uI e8 a0 2 (e8.1 p0 2)) a0 3 ((uI e8 a0 2 (e8.1 p0 2)).1 p0 3)) a0 4 ((uI (uI e8 a0 2 (e8.1 p0 2)) a0 3 ((uI e8 a0 2 (e8.1 p0 2)).1 p0 3)).1 p0 4)).1 p0 5)).1 p0 6)) a0 7 ((uI (uI (uI (uI (uI e8 a0 2 (e8.1 p0 2)) a0 3 ((uI e8 a0 2 (e8.1 p0 2)).1 p0 3)) a0 4 ((uI (uI e8 a0 2 (e8.1 p0 2)) a0 3 ((uI e8 a0 2 (e8.1 p0 2)).1 p0 3)).1 p0 4)) a0 5 ((uI (uI (uI e8 a0 2 (e8.1 p0 2)) a0 3 ((uI e8 a0 2 (e8.1 p0 2)).1 p0 3)) a0 4 ((uI (uI e8 a0 2 (e8.1 p0 2)) a0 3 ((uI e8 a0 2 (e8.1 p0 2)).1 p0 3)).1 p0 4)).1 p0 5)) a0 6 ((uI (uI (uI (uI e8 a0 2 (e8.1 p0 2)) a0 3 ((uI e8 a0 2 (e8.1 p0 2)).1 p0 3)) a0 4 ((uI (uI e8 a0 2 (e8.1 p0 2)) a0 3 ((uI e8 a0 2 (e8.1 p0 2)).1 p0 3)).1 p0 4)) a0 5 ((uI (uI (uI e8 a0 2 (e8.1 p0 2)) a0 3 ((uI e8 a0 2 (e8.1 p0 2)).1 p0 3)) a0 4 ((uI (uI e8 a0 2 (e8.1 p0 2)) a0 3 ((uI e8 a0 2 (e8.1 p0 2)).1 p0 3)).1 p0 4)).1 p0 5)).1 p0 6)).1 p0 7))) rfl (pl_at ha0) (by decide) rfl ?_
      cases h
      exact ev_ret rfl rfl
    exact ev_wk (L := [some (.ref a0), some (.ref p0), some (.int (0 : Int32))]) (lp_ind (P := (fun (s : (Int32 × M2)) => Ev Lx 40 cd_40 17 [some (.ref a0), some (.ref p0), some (.int s.1)] [] s.2 (none, b))) (fun s s2 hs hP => tb_Pl_copy_17 a0 p0 ha0 hp0 s.1 s.2 (b := .inl s2) hs hP) (fun s hs => tb_Pl_copy_17 a0 p0 ha0 hp0 s.1 s.2 (b := .inr e8) hs hX9) _ _ he8) ⟨rfl, ⟨rfl, ⟨rfl, trivial⟩⟩⟩
  exact ev_wk (L := [some (.ref a0), some (.ref p0), some (.int (0 : Int32))]) (lp_ind (P := (fun (s : (Int32 × M2)) => Ev Lx 40 cd_40 2 [some (.ref a0), some (.ref p0), some (.int s.1)] [] s.2 (none, b))) (fun s s2 hs hP => tb_Pl_copy_2 a0 p0 ha0 hp0 s.1 s.2 (b := .inl s2) hs hP) (fun s hs => tb_Pl_copy_2 a0 p0 ha0 hp0 s.1 s.2 (b := .inr e4) hs hX10) _ _ he4) ⟨rfl, ⟨rfl, ⟨rfl, trivial⟩⟩⟩
def f_Da_array  (g : M2) : Option (Int32 × M2) := ((f_Re_readText g).bind fun q1 => (if ((uI q1 1 2 (0 : Int32)).1 1 7) = 0 then ((f_Pl_copy 7 3 (uI q1 1 2 (0 : Int32))).bind fun q3 => some (((uI q3 0 9 (1 : Int32)).1 7 7), (uI q3 0 9 (1 : Int32)))) else some ((-4 : Int32), (uI q1 1 2 (0 : Int32)))))
theorem e_Da_array {Lx : Nat}   (g : M2) {b : (Int32 × M2)} (h : f_Da_array  g = some b) : Ev Lx 41 cd_41 0 [some (.ref 0)] [] g (some (.int b.1), b.2) := by
  unfold f_Da_array at h
  refine ev_rn (n := 2) (i2 := 2) (L2 := [some (.ref 0)]) (st2 := [.ref 1]) (g2 := g) cdE_41 rfl ?_
  obtain ⟨q1, hq1, h⟩ := Option.bind_eq_some_iff.mp h
  refine ev_call rfl cdE_39 rfl rfl rfl (e_Re_readText   g hq1) ?_
  refine ev_rn (n := 7) (i2 := 10) (L2 := [some (.ref 0)]) (st2 := [.int ((uI q1 1 2 (0 : Int32)).1 1 7)]) (g2 := (uI q1 1 2 (0 : Int32))) cdE_41 rfl ?_
  by_cases hc2 : ((uI q1 1 2 (0 : Int32)).1 1 7) = 0
  · rw [if_pos hc2] at h
    refine ev_zft cdE_41 rfl (cn_t hc2) ?_
    refine ev_rn (n := 6) (i2 := 19) (L2 := [some (.ref 0)]) (st2 := [.ref 3, .ref 7]) (g2 := (uI q1 1 2 (0 : Int32))) cdE_41 rfl ?_
    obtain ⟨q3, hq3, h⟩ := Option.bind_eq_some_iff.mp h
    refine ev_call rfl cdE_40 rfl rfl rfl (e_Pl_copy 7 3 (by decide) (by decide) (uI q1 1 2 (0 : Int32)) hq3) ?_
    refine ev_rn (n := 7) (i2 := 27) (L2 := [some (.ref 0)]) (st2 := [.int ((uI q3 0 9 (1 : Int32)).1 7 7)]) (g2 := (uI q3 0 9 (1 : Int32))) cdE_41 rfl ?_
    cases h
    exact ev_ret rfl rfl
  · rw [if_neg hc2] at h
    refine ev_zff rfl (cn_f hc2) ?_
    refine ev_rn (n := 1) (i2 := 12) (L2 := [some (.ref 0)]) (st2 := [.int (-4 : Int32)]) (g2 := (uI q1 1 2 (0 : Int32))) cdE_41 rfl ?_
    cases h
    exact ev_ret rfl rfl
def f_Mo_see (p0 : Int32) (g : M2) : Option (Int32) := (if (g.1 157 23) ≤ p0 then some (-1 : Int32) else (if inb p0 300 then some ((g.1 167 p0.toNatClampNeg) &&& (255 : Int32)) else none))
theorem e_Mo_see {Lx : Nat} (p0 : Int32)  (g : M2) {b : Int32} (h : f_Mo_see p0 g = some b) : Ev Lx 42 cd_42 0 [some (.ref 157), some (.int p0)] [] g (some (.int b), g) := by
  unfold f_Mo_see at h
  refine ev_rn (n := 3) (i2 := 3) (L2 := [some (.ref 157), some (.int p0)]) (st2 := [.int (g.1 157 23), .int p0]) (g2 := g) cdE_42 rfl ?_
  by_cases hc1 : (g.1 157 23) ≤ p0
  · rw [if_pos hc1] at h
    refine ev_ift cdE_42 rfl (cn_t hc1) ?_
    refine ev_rn (n := 1) (i2 := 12) (L2 := [some (.ref 157), some (.int p0)]) (st2 := [.int (-1 : Int32)]) (g2 := g) cdE_42 rfl ?_
    cases h
    exact ev_ret rfl rfl
  · rw [if_neg hc1] at h
    refine ev_iff rfl (cn_f hc1) ?_
    refine ev_rn (n := 3) (i2 := 7) (L2 := [some (.ref 157), some (.int p0)]) (st2 := [.int p0, .ref 167]) (g2 := g) cdE_42 rfl ?_
    by_cases hi2 : inb p0 300
    · rw [if_pos hi2] at h
      refine ev_baload (v := .int (g.1 167 p0.toNatClampNeg)) rfl (kd_of (show S0[167]? = some (102, 300, List.replicate 300 none) from rfl)) (by decide) hi2 rfl ?_
      refine ev_rn (n := 3) (i2 := 12) (L2 := [some (.ref 157), some (.int p0)]) (st2 := [.int ((g.1 167 p0.toNatClampNeg) &&& (255 : Int32))]) (g2 := g) cdE_42 rfl ?_
      cases h
      exact ev_ret rfl rfl
    · rw [if_neg hi2] at h
      cases h
def b_Mo_advance_0   (g : M2) : Option (M2 ⊕ M2) := ((f_Mo_see (g.1 157 24) g).bind fun q1 => (if q1 = (32 : Int32) then some (.inl (uI g 157 24 ((g.1 157 24) + (1 : Int32)))) else ((f_Mo_see (g.1 157 24) g).bind fun q3 => (if q3 = (10 : Int32) then some (.inl (uI g 157 24 ((g.1 157 24) + (1 : Int32)))) else some (.inr g)))))
theorem tb_Mo_advance_0 {Lx : Nat}    (g : M2) {b : M2 ⊕ M2} {o : Option Value × M2} (h : b_Mo_advance_0  g = some b) (hb : Sum.elim (fun s => Ev Lx 43 cd_43 0 [some (.ref 157)] [] s o) (fun e => Ev Lx 43 cd_43 19 [some (.ref 157)] [] e o) b) : Ev Lx 43 cd_43 0 [some (.ref 157)] [] g o := by
  unfold b_Mo_advance_0 at h
  refine ev_rn (n := 3) (i2 := 3) (L2 := [some (.ref 157)]) (st2 := [.int (g.1 157 24), .ref 157]) (g2 := g) cdE_43 rfl ?_
  obtain ⟨q1, hq1, h⟩ := Option.bind_eq_some_iff.mp h
  refine ev_call rfl cdE_42 rfl rfl rfl (e_Mo_see (g.1 157 24)  g hq1) ?_
  refine ev_rn (n := 1) (i2 := 5) (L2 := [some (.ref 157)]) (st2 := [.int (32 : Int32), .int q1]) (g2 := g) cdE_43 rfl ?_
  by_cases hc2 : q1 = (32 : Int32)
  · rw [if_pos hc2] at h
    refine ev_ift cdE_43 rfl (cn_t hc2) ?_
    refine ev_rn (n := 7) (i2 := 0) (L2 := [some (.ref 157)]) (st2 := []) (g2 := (uI g 157 24 ((g.1 157 24) + (1 : Int32)))) cdE_43 rfl ?_
    cases h
    exact ev_wk (L := [some (.ref 157)]) hb ⟨rfl, trivial⟩
  · rw [if_neg hc2] at h
    refine ev_iff rfl (cn_f hc2) ?_
    refine ev_rn (n := 3) (i2 := 9) (L2 := [some (.ref 157)]) (st2 := [.int (g.1 157 24), .ref 157]) (g2 := g) cdE_43 rfl ?_
    obtain ⟨q3, hq3, h⟩ := Option.bind_eq_some_iff.mp h
    refine ev_call rfl cdE_42 rfl rfl rfl (e_Mo_see (g.1 157 24)  g hq3) ?_
    refine ev_rn (n := 1) (i2 := 11) (L2 := [some (.ref 157)]) (st2 := [.int (10 : Int32), .int q3]) (g2 := g) cdE_43 rfl ?_
    by_cases hc4 : q3 = (10 : Int32)
    · rw [if_pos hc4] at h
      refine ev_iff rfl (cn_f (fun q => q hc4)) ?_
      refine ev_rn (n := 7) (i2 := 0) (L2 := [some (.ref 157)]) (st2 := []) (g2 := (uI g 157 24 ((g.1 157 24) + (1 : Int32)))) cdE_43 rfl ?_
      cases h
      exact ev_wk (L := [some (.ref 157)]) hb ⟨rfl, trivial⟩
    · rw [if_neg hc4] at h
      refine ev_ift cdE_43 rfl (cn_t hc4) ?_
      cases h
      exact ev_wk (L := [some (.ref 157)]) hb ⟨rfl, trivial⟩
def b_Mo_advance_70   (g : M2) : Option (M2 ⊕ M2) := ((f_Mo_see (g.1 157 24) g).bind fun q11 => (if (f_Mo_in q11.toInt64 (48 : Int64) (57 : Int64) g) = 0 then some (.inr g) else ((f_Mo_see (g.1 157 24) g).bind fun q13 => some (.inl (uI (uI g 157 27 (f_Ma_min (99999 : Int32) ((((10 : Int32) * (g.1 157 27)) + q13) - (48 : Int32)) g)) 157 24 (((uI g 157 27 (f_Ma_min (99999 : Int32) ((((10 : Int32) * (g.1 157 27)) + q13) - (48 : Int32)) g)).1 157 24) + (1 : Int32)))))))
theorem tb_Mo_advance_70 {Lx : Nat}    (g : M2) {b : M2 ⊕ M2} {o : Option Value × M2} (h : b_Mo_advance_70  g = some b) (hb : Sum.elim (fun s => Ev Lx 43 cd_43 70 [some (.ref 157)] [] s o) (fun e => Ev Lx 43 cd_43 101 [some (.ref 157)] [] e o) b) : Ev Lx 43 cd_43 70 [some (.ref 157)] [] g o := by
  unfold b_Mo_advance_70 at h
  refine ev_rn (n := 3) (i2 := 73) (L2 := [some (.ref 157)]) (st2 := [.int (g.1 157 24), .ref 157]) (g2 := g) cdE_43 rfl ?_
  obtain ⟨q11, hq11, h⟩ := Option.bind_eq_some_iff.mp h
  refine ev_call rfl cdE_42 rfl rfl rfl (e_Mo_see (g.1 157 24)  g hq11) ?_
  refine ev_rn (n := 3) (i2 := 77) (L2 := [some (.ref 157)]) (st2 := [.long (57 : Int64), .long (48 : Int64), .long q11.toInt64]) (g2 := g) cdE_43 rfl ?_
  refine ev_call rfl cdE_16 rfl rfl rfl (e_Mo_in q11.toInt64 (48 : Int64) (57 : Int64)  g rfl) ?_
  by_cases hc12 : (f_Mo_in q11.toInt64 (48 : Int64) (57 : Int64) g) = 0
  · rw [if_pos hc12] at h
    refine ev_zft cdE_43 rfl (cn_t hc12) ?_
    cases h
    exact ev_wk (L := [some (.ref 157)]) hb ⟨rfl, trivial⟩
  · rw [if_neg hc12] at h
    refine ev_zff rfl (cn_f hc12) ?_
    refine ev_rn (n := 9) (i2 := 88) (L2 := [some (.ref 157)]) (st2 := [.int (g.1 157 24), .ref 157, .int ((10 : Int32) * (g.1 157 27)), .int (99999 : Int32), .ref 157]) (g2 := g) cdE_43 rfl ?_
    obtain ⟨q13, hq13, h⟩ := Option.bind_eq_some_iff.mp h
    refine ev_call rfl cdE_42 rfl rfl rfl (e_Mo_see (g.1 157 24)  g hq13) ?_
    refine ev_rn (n := 3) (i2 := 92) (L2 := [some (.ref 157)]) (st2 := [.int ((((10 : Int32) * (g.1 157 27)) + q13) - (48 : Int32)), .int (99999 : Int32), .ref 157]) (g2 := g) cdE_43 rfl ?_
    refine ev_call rfl cdE_21 rfl rfl rfl (e_Ma_min (99999 : Int32) ((((10 : Int32) * (g.1 157 27)) + q13) - (48 : Int32))  g rfl) ?_
    refine ev_rn (n := 8) (i2 := 70) (L2 := [some (.ref 157)]) (st2 := []) (g2 := (uI (uI g 157 27 (f_Ma_min (99999 : Int32) ((((10 : Int32) * (g.1 157 27)) + q13) - (48 : Int32)) g)) 157 24 (((uI g 157 27 (f_Ma_min (99999 : Int32) ((((10 : Int32) * (g.1 157 27)) + q13) - (48 : Int32)) g)).1 157 24) + (1 : Int32)))) cdE_43 rfl ?_
    cases h
    exact ev_wk (L := [some (.ref 157)]) hb ⟨rfl, trivial⟩
def b_Mo_advance_41   (g : M2) : Option (M2 ⊕ M2) := ((f_Mo_see (g.1 157 24) g).bind fun q16 => (if (f_Mo_in q16.toInt64 (97 : Int64) (122 : Int64) g) = 0 then some (.inr g) else some (.inl (uI g 157 24 ((g.1 157 24) + (1 : Int32))))))
theorem tb_Mo_advance_41 {Lx : Nat}    (g : M2) {b : M2 ⊕ M2} {o : Option Value × M2} (h : b_Mo_advance_41  g = some b) (hb : Sum.elim (fun s => Ev Lx 43 cd_43 41 [some (.ref 157)] [] s o) (fun e => Ev Lx 43 cd_43 57 [some (.ref 157)] [] e o) b) : Ev Lx 43 cd_43 41 [some (.ref 157)] [] g o := by
  unfold b_Mo_advance_41 at h
  refine ev_rn (n := 3) (i2 := 44) (L2 := [some (.ref 157)]) (st2 := [.int (g.1 157 24), .ref 157]) (g2 := g) cdE_43 rfl ?_
  obtain ⟨q16, hq16, h⟩ := Option.bind_eq_some_iff.mp h
  refine ev_call rfl cdE_42 rfl rfl rfl (e_Mo_see (g.1 157 24)  g hq16) ?_
  refine ev_rn (n := 3) (i2 := 48) (L2 := [some (.ref 157)]) (st2 := [.long (122 : Int64), .long (97 : Int64), .long q16.toInt64]) (g2 := g) cdE_43 rfl ?_
  refine ev_call rfl cdE_16 rfl rfl rfl (e_Mo_in q16.toInt64 (97 : Int64) (122 : Int64)  g rfl) ?_
  by_cases hc17 : (f_Mo_in q16.toInt64 (97 : Int64) (122 : Int64) g) = 0
  · rw [if_pos hc17] at h
    refine ev_zft cdE_43 rfl (cn_t hc17) ?_
    cases h
    exact ev_wk (L := [some (.ref 157)]) hb ⟨rfl, trivial⟩
  · rw [if_neg hc17] at h
    refine ev_zff rfl (cn_f hc17) ?_
    refine ev_rn (n := 7) (i2 := 41) (L2 := [some (.ref 157)]) (st2 := []) (g2 := (uI g 157 24 ((g.1 157 24) + (1 : Int32)))) cdE_43 rfl ?_
    cases h
    exact ev_wk (L := [some (.ref 157)]) hb ⟨rfl, trivial⟩
def f_Mo_advance  (g : M2) : Option (M2) := ((lp (fun s => b_Mo_advance_0   s) 5000 g).bind fun e5 => ((f_Mo_see ((uI e5 157 25 (e5.1 157 24)).1 157 24) (uI e5 157 25 (e5.1 157 24))).bind fun q6 => (if q6 = (-1 : Int32) then some (uI (uI e5 157 25 (e5.1 157 24)) 157 26 (0 : Int32)) else (if (f_Mo_in q6.toInt64 (97 : Int64) (122 : Int64) (uI e5 157 25 (e5.1 157 24))) = 0 then (if (f_Mo_in q6.toInt64 (48 : Int64) (57 : Int64) (uI e5 157 25 (e5.1 157 24))) = 0 then (if q6 = (59 : Int32) then some (uI (uI (uI e5 157 25 (e5.1 157 24)) 157 26 (3 : Int32)) 157 24 (((uI (uI e5 157 25 (e5.1 157 24)) 157 26 (3 : Int32)).1 157 24) + (1 : Int32))) else some (uI (uI (uI e5 157 25 (e5.1 157 24)) 157 26 (4 : Int32)) 157 24 (((uI (uI e5 157 25 (e5.1 157 24)) 157 26 (4 : Int32)).1 157 24) + (1 : Int32)))) else ((lp (fun s => b_Mo_advance_70   s) 5000 (uI (uI e5 157 25 (e5.1 157 24)) 157 27 (0 : Int32))).bind fun e14 => some (uI e14 157 26 (2 : Int32)))) else ((lp (fun s => b_Mo_advance_41   s) 5000 (uI e5 157 25 (e5.1 157 24))).bind fun e18 => some (uI e18 157 26 (1 : Int32)))))))
theorem e_Mo_advance {Lx : Nat}   (g : M2) {b : M2} (h : f_Mo_advance  g = some b) : Ev Lx 43 cd_43 0 [some (.ref 157)] [] g (none, b) := by
  unfold f_Mo_advance at h
  obtain ⟨e5, he5, h⟩ := Option.bind_eq_some_iff.mp h
  have hX20 : Ev Lx 43 cd_43 19 [some (.ref 157)] [] e5 (none, b) := by
    refine ev_rn (n := 7) (i2 := 26) (L2 := [some (.ref 157)]) (st2 := [.int ((uI e5 157 25 (e5.1 157 24)).1 157 24), .ref 157]) (g2 := (uI e5 157 25 (e5.1 157 24))) cdE_43 rfl ?_
    obtain ⟨q6, hq6, h⟩ := Option.bind_eq_some_iff.mp h
    refine ev_call rfl cdE_42 rfl rfl rfl (e_Mo_see ((uI e5 157 25 (e5.1 157 24)).1 157 24)  (uI e5 157 25 (e5.1 157 24)) hq6) ?_
    refine ev_rn (n := 3) (i2 := 30) (L2 := [some (.ref 157), some (.int q6)]) (st2 := [.int (-1 : Int32), .int q6]) (g2 := (uI e5 157 25 (e5.1 157 24))) cdE_43 rfl ?_
    by_cases hc7 : q6 = (-1 : Int32)
    · rw [if_pos hc7] at h
      refine ev_iff rfl (cn_f (fun q => q hc7)) ?_
      refine ev_rn (n := 4) (i2 := 119) (L2 := [some (.ref 157), some (.int q6)]) (st2 := []) (g2 := (uI (uI e5 157 25 (e5.1 157 24)) 157 26 (0 : Int32))) cdE_43 rfl ?_
      cases h
      exact ev_ret rfl rfl
    · rw [if_neg hc7] at h
      refine ev_ift cdE_43 rfl (cn_t hc7) ?_
      refine ev_rn (n := 4) (i2 := 39) (L2 := [some (.ref 157), some (.int q6)]) (st2 := [.long (122 : Int64), .long (97 : Int64), .long q6.toInt64]) (g2 := (uI e5 157 25 (e5.1 157 24))) cdE_43 rfl ?_
      refine ev_call rfl cdE_16 rfl rfl rfl (e_Mo_in q6.toInt64 (97 : Int64) (122 : Int64)  (uI e5 157 25 (e5.1 157 24)) rfl) ?_
      by_cases hc8 : (f_Mo_in q6.toInt64 (97 : Int64) (122 : Int64) (uI e5 157 25 (e5.1 157 24))) = 0
      · rw [if_pos hc8] at h
        refine ev_zft cdE_43 rfl (cn_t hc8) ?_
        refine ev_rn (n := 4) (i2 := 65) (L2 := [some (.ref 157), some (.int q6)]) (st2 := [.long (57 : Int64), .long (48 : Int64), .long q6.toInt64]) (g2 := (uI e5 157 25 (e5.1 157 24))) cdE_43 rfl ?_
        refine ev_call rfl cdE_16 rfl rfl rfl (e_Mo_in q6.toInt64 (48 : Int64) (57 : Int64)  (uI e5 157 25 (e5.1 157 24)) rfl) ?_
        by_cases hc9 : (f_Mo_in q6.toInt64 (48 : Int64) (57 : Int64) (uI e5 157 25 (e5.1 157 24))) = 0
        · rw [if_pos hc9] at h
          refine ev_zft cdE_43 rfl (cn_t hc9) ?_
          refine ev_rn (n := 3) (i2 := 108) (L2 := [some (.ref 157), some (.int q6)]) (st2 := [.int (59 : Int32), .int q6, .ref 157]) (g2 := (uI e5 157 25 (e5.1 157 24))) cdE_43 rfl ?_
          by_cases hc10 : q6 = (59 : Int32)
          · rw [if_pos hc10] at h
            refine ev_iff rfl (cn_f (fun q => q hc10)) ?_
            refine ev_rn (n := 9) (i2 := 119) (L2 := [some (.ref 157), some (.int q6)]) (st2 := []) (g2 := (uI (uI (uI e5 157 25 (e5.1 157 24)) 157 26 (3 : Int32)) 157 24 (((uI (uI e5 157 25 (e5.1 157 24)) 157 26 (3 : Int32)).1 157 24) + (1 : Int32)))) cdE_43 rfl ?_
            cases h
            exact ev_ret rfl rfl
          · rw [if_neg hc10] at h
            refine ev_ift cdE_43 rfl (cn_t hc10) ?_
            refine ev_rn (n := 8) (i2 := 119) (L2 := [some (.ref 157), some (.int q6)]) (st2 := []) (g2 := (uI (uI (uI e5 157 25 (e5.1 157 24)) 157 26 (4 : Int32)) 157 24 (((uI (uI e5 157 25 (e5.1 157 24)) 157 26 (4 : Int32)).1 157 24) + (1 : Int32)))) cdE_43 rfl ?_
            cases h
            exact ev_ret rfl rfl
        · rw [if_neg hc9] at h
          refine ev_zff rfl (cn_f hc9) ?_
          refine ev_rn (n := 3) (i2 := 70) (L2 := [some (.ref 157), some (.int q6)]) (st2 := []) (g2 := (uI (uI e5 157 25 (e5.1 157 24)) 157 27 (0 : Int32))) cdE_43 rfl ?_
          obtain ⟨e14, he14, h⟩ := Option.bind_eq_some_iff.mp h
          have hX15 : Ev Lx 43 cd_43 101 [some (.ref 157)] [] e14 (none, b) := by
            refine ev_rn (n := 4) (i2 := 119) (L2 := [some (.ref 157)]) (st2 := []) (g2 := (uI e14 157 26 (2 : Int32))) cdE_43 rfl ?_
            cases h
            exact ev_ret rfl rfl
          exact ev_wk (L := [some (.ref 157)]) (lp_ind (P := (fun (s : M2) => Ev Lx 43 cd_43 70 [some (.ref 157)] [] s (none, b))) (fun s s2 hs hP => tb_Mo_advance_70    s (b := .inl s2) hs hP) (fun s hs => tb_Mo_advance_70    s (b := .inr e14) hs hX15) _ _ he14) ⟨rfl, trivial⟩
      · rw [if_neg hc8] at h
        refine ev_zff rfl (cn_f hc8) ?_
        obtain ⟨e18, he18, h⟩ := Option.bind_eq_some_iff.mp h
        have hX19 : Ev Lx 43 cd_43 57 [some (.ref 157)] [] e18 (none, b) := by
          refine ev_rn (n := 4) (i2 := 119) (L2 := [some (.ref 157)]) (st2 := []) (g2 := (uI e18 157 26 (1 : Int32))) cdE_43 rfl ?_
          cases h
          exact ev_ret rfl rfl
        exact ev_wk (L := [some (.ref 157)]) (lp_ind (P := (fun (s : M2) => Ev Lx 43 cd_43 41 [some (.ref 157)] [] s (none, b))) (fun s s2 hs hP => tb_Mo_advance_41    s (b := .inl s2) hs hP) (fun s hs => tb_Mo_advance_41    s (b := .inr e18) hs hX19) _ _ he18) ⟨rfl, trivial⟩
  exact ev_wk (L := [some (.ref 157)]) (lp_ind (P := (fun (s : M2) => Ev Lx 43 cd_43 0 [some (.ref 157)] [] s (none, b))) (fun s s2 hs hP => tb_Mo_advance_0    s (b := .inl s2) hs hP) (fun s hs => tb_Mo_advance_0    s (b := .inr e5) hs hX20) _ _ he5) ⟨rfl, trivial⟩
def f_Mo_good  (g : M2) : Int32 := (if (g.1 157 28) = 0 then (1 : Int32) else (0 : Int32))
theorem e_Mo_good {Lx : Nat}   (g : M2) {b : Int32} (h : f_Mo_good  g = b) : Ev Lx 44 cd_44 0 [some (.ref 157)] [] g (some (.int b), g) := by
  unfold f_Mo_good at h
  refine ev_rn (n := 2) (i2 := 2) (L2 := [some (.ref 157)]) (st2 := [.int (g.1 157 28)]) (g2 := g) cdE_44 rfl ?_
  by_cases hc1 : (g.1 157 28) = 0
  · rw [if_pos hc1] at h
    refine ev_zff rfl (cn_f (fun q => q hc1)) ?_
    refine ev_rn (n := 2) (i2 := 6) (L2 := [some (.ref 157)]) (st2 := [.int (1 : Int32)]) (g2 := g) cdE_44 rfl ?_
    subst h
    exact ev_ret rfl rt_1
  · rw [if_neg hc1] at h
    refine ev_zft cdE_44 rfl (cn_t hc1) ?_
    refine ev_rn (n := 1) (i2 := 6) (L2 := [some (.ref 157)]) (st2 := [.int (0 : Int32)]) (g2 := g) cdE_44 rfl ?_
    subst h
    exact ev_ret rfl rt_0
def b_Mo_is_21 (v1 : Nat) (v2 : Int32) (v3 : Int32) (g : M2) : Option ((Int32 × Int32) ⊕ Int32) := (if (nI (mm_tx v1).length) ≤ v3 then some (.inr v2) else (if v2 = 0 then some (.inr v2) else (if inb ((g.1 157 25) + v3) 300 then (if inb v3 (mm_tx v1).length then (if (g.1 167 ((g.1 157 25) + v3).toNatClampNeg) = (nI ((mm_tx v1).getD v3.toNatClampNeg 0)) then some (.inl ((1 : Int32), (v3 + (1 : Int32)))) else some (.inl ((0 : Int32), (v3 + (1 : Int32))))) else none) else none)))
theorem tb_Mo_is_21 {Lx : Nat} (v1 : Nat) (hv1 : IsStr v1) (v2 : Int32) (v3 : Int32) (g : M2) {b : (Int32 × Int32) ⊕ Int32} {o : Option Value × M2} (h : b_Mo_is_21 v1 v2 v3 g = some b) (hb : Sum.elim (fun s => Ev Lx 45 cd_45 21 [some (.ref 157), some (.ref v1), some (.int s.1), some (.int s.2)] [] g o) (fun e => Ev Lx 45 cd_45 44 [none, none, some (.int e)] [] g o) b) : Ev Lx 45 cd_45 21 [some (.ref 157), some (.ref v1), some (.int v2), some (.int v3)] [] g o := by
  unfold b_Mo_is_21 at h
  refine ev_rn (n := 2) (i2 := 23) (L2 := [some (.ref 157), some (.ref v1), some (.int v2), some (.int v3)]) (st2 := [.ref v1, .int v3]) (g2 := g) cdE_45 rfl ?_
  refine ev_sl rfl hv1 ?_
  by_cases hc2 : (nI (mm_tx v1).length) ≤ v3
  · rw [if_pos hc2] at h
    refine ev_ift cdE_45 rfl (cn_t hc2) ?_
    cases h
    exact ev_wk (L := [none, none, some (.int v2)]) hb ⟨rfl, trivial⟩
  · rw [if_neg hc2] at h
    refine ev_iff rfl (cn_f hc2) ?_
    refine ev_rn (n := 1) (i2 := 26) (L2 := [some (.ref 157), some (.ref v1), some (.int v2), some (.int v3)]) (st2 := [.int v2]) (g2 := g) cdE_45 rfl ?_
    by_cases hc3 : v2 = 0
    · rw [if_pos hc3] at h
      refine ev_zft cdE_45 rfl (cn_t hc3) ?_
      cases h
      exact ev_wk (L := [none, none, some (.int v2)]) hb ⟨rfl, trivial⟩
    · rw [if_neg hc3] at h
      refine ev_zff rfl (cn_f hc3) ?_
      refine ev_rn (n := 6) (i2 := 33) (L2 := [some (.ref 157), some (.ref v1), some (.int v2), some (.int v3)]) (st2 := [.int ((g.1 157 25) + v3), .ref 167]) (g2 := g) cdE_45 rfl ?_
      by_cases hi4 : inb ((g.1 157 25) + v3) 300
      · rw [if_pos hi4] at h
        refine ev_baload (v := .int (g.1 167 ((g.1 157 25) + v3).toNatClampNeg)) rfl (kd_of (show S0[167]? = some (102, 300, List.replicate 300 none) from rfl)) (by decide) hi4 rfl ?_
        refine ev_rn (n := 2) (i2 := 36) (L2 := [some (.ref 157), some (.ref v1), some (.int v2), some (.int v3)]) (st2 := [.int v3, .ref v1, .int (g.1 167 ((g.1 157 25) + v3).toNatClampNeg)]) (g2 := g) cdE_45 rfl ?_
        by_cases hs5 : inb v3 (mm_tx v1).length
        · rw [if_pos hs5] at h
          refine ev_sc rfl hv1 hs5 ?_
          by_cases hc6 : (g.1 167 ((g.1 157 25) + v3).toNatClampNeg) = (nI ((mm_tx v1).getD v3.toNatClampNeg 0))
          · rw [if_pos hc6] at h
            refine ev_iff rfl (cn_f (fun q => q hc6)) ?_
            refine ev_rn (n := 5) (i2 := 21) (L2 := [some (.ref 157), some (.ref v1), some (.int (1 : Int32)), some (.int (v3 + (1 : Int32)))]) (st2 := []) (g2 := g) cdE_45 rfl ?_
            cases h
            exact ev_wk (L := [some (.ref 157), some (.ref v1), some (.int (1 : Int32)), some (.int (v3 + (1 : Int32)))]) hb ⟨rfl, ⟨rfl, ⟨rfl, ⟨rfl, trivial⟩⟩⟩⟩
          · rw [if_neg hc6] at h
            refine ev_ift cdE_45 rfl (cn_t hc6) ?_
            refine ev_rn (n := 4) (i2 := 21) (L2 := [some (.ref 157), some (.ref v1), some (.int (0 : Int32)), some (.int (v3 + (1 : Int32)))]) (st2 := []) (g2 := g) cdE_45 rfl ?_
            cases h
            exact ev_wk (L := [some (.ref 157), some (.ref v1), some (.int (0 : Int32)), some (.int (v3 + (1 : Int32)))]) hb ⟨rfl, ⟨rfl, ⟨rfl, ⟨rfl, trivial⟩⟩⟩⟩
        · rw [if_neg hs5] at h
          cases h
      · rw [if_neg hi4] at h
        cases h
def j_Mo_is_19 (v1 : Nat) (v2 : Int32) (g : M2) : Option (Int32) := ((lp (fun s => b_Mo_is_21 v1 s.1 s.2 g) 5000 (v2, (0 : Int32))).bind fun e7 => some (e7 &&& 1))
theorem tj_Mo_is_19 {Lx : Nat}  (v1 : Nat) (v2 : Int32) (hv1 : IsStr v1) (g : M2) {b : Int32} (h : j_Mo_is_19 v1 v2 g = some b) : Ev Lx 45 cd_45 19 [some (.ref 157), some (.ref v1), some (.int v2)] [] g (some (.int b), g) := by
  unfold j_Mo_is_19 at h
  refine ev_rn (n := 2) (i2 := 21) (L2 := [some (.ref 157), some (.ref v1), some (.int v2), some (.int (0 : Int32))]) (st2 := []) (g2 := g) cdE_45 rfl ?_
  obtain ⟨e7, he7, h⟩ := Option.bind_eq_some_iff.mp h
  have hX8 : Ev Lx 45 cd_45 44 [none, none, some (.int e7)] [] g (some (.int b), g) := by
    refine ev_rn (n := 1) (i2 := 45) (L2 := [none, none, some (.int e7)]) (st2 := [.int e7]) (g2 := g) cdE_45 rfl ?_
    cases h
    exact ev_ret rfl rfl
  exact ev_wk (L := [some (.ref 157), some (.ref v1), some (.int v2), some (.int (0 : Int32))]) (lp_ind (P := (fun (s : (Int32 × Int32)) => Ev Lx 45 cd_45 21 [some (.ref 157), some (.ref v1), some (.int s.1), some (.int s.2)] [] g (some (.int b), g))) (fun s s2 hs hP => tb_Mo_is_21 v1 hv1 s.1 s.2 g (b := .inl s2) hs hP) (fun s hs => tb_Mo_is_21 v1 hv1 s.1 s.2 g (b := .inr e7) hs hX8) _ _ he7) ⟨rfl, ⟨rfl, ⟨rfl, ⟨rfl, trivial⟩⟩⟩⟩
def j_Mo_is_17 (v1 : Nat) (g : M2) : Option (Int32) := (j_Mo_is_19 v1 (0 : Int32) g)
theorem tj_Mo_is_17 {Lx : Nat}  (v1 : Nat) (hv1 : IsStr v1) (g : M2) {b : Int32} (h : j_Mo_is_17 v1 g = some b) : Ev Lx 45 cd_45 17 [some (.ref 157), some (.ref v1)] [] g (some (.int b), g) := by
  unfold j_Mo_is_17 at h
  refine ev_rn (n := 2) (i2 := 19) (L2 := [some (.ref 157), some (.ref v1), some (.int (0 : Int32))]) (st2 := []) (g2 := g) cdE_45 rfl ?_
  exact ev_wk (L := [some (.ref 157), some (.ref v1), some (.int (0 : Int32))]) (tj_Mo_is_19  v1 (0 : Int32) hv1 g h) ⟨rfl, ⟨rfl, ⟨rfl, trivial⟩⟩⟩
def f_Mo_is (p0 : Nat) (g : M2) : Option (Int32) := (if (f_Mo_good g) = 0 then (j_Mo_is_17 p0 g) else (if (g.1 157 26) = (1 : Int32) then (if ((g.1 157 24) - (g.1 157 25)) = (nI (mm_tx p0).length) then (j_Mo_is_19 p0 (1 : Int32) g) else (j_Mo_is_17 p0 g)) else (j_Mo_is_17 p0 g)))
theorem e_Mo_is {Lx : Nat} (p0 : Nat) (hp0 : IsStr p0) (g : M2) {b : Int32} (h : f_Mo_is p0 g = some b) : Ev Lx 45 cd_45 0 [some (.ref 157), some (.ref p0)] [] g (some (.int b), g) := by
  unfold f_Mo_is at h
  refine ev_rn (n := 1) (i2 := 1) (L2 := [some (.ref 157), some (.ref p0)]) (st2 := [.ref 157]) (g2 := g) cdE_45 rfl ?_
  refine ev_call rfl cdE_44 rfl rfl rfl (e_Mo_good   g rfl) ?_
  by_cases hc1 : (f_Mo_good g) = 0
  · rw [if_pos hc1] at h
    refine ev_zft cdE_45 rfl (cn_t hc1) ?_
    exact ev_wk (L := [some (.ref 157), some (.ref p0)]) (tj_Mo_is_17  p0 hp0 g h) ⟨rfl, ⟨rfl, trivial⟩⟩
  · rw [if_neg hc1] at h
    refine ev_zff rfl (cn_f hc1) ?_
    refine ev_rn (n := 3) (i2 := 6) (L2 := [some (.ref 157), some (.ref p0)]) (st2 := [.int (1 : Int32), .int (g.1 157 26)]) (g2 := g) cdE_45 rfl ?_
    by_cases hc9 : (g.1 157 26) = (1 : Int32)
    · rw [if_pos hc9] at h
      refine ev_iff rfl (cn_f (fun q => q hc9)) ?_
      refine ev_rn (n := 6) (i2 := 13) (L2 := [some (.ref 157), some (.ref p0)]) (st2 := [.ref p0, .int ((g.1 157 24) - (g.1 157 25))]) (g2 := g) cdE_45 rfl ?_
      refine ev_sl rfl hp0 ?_
      by_cases hc10 : ((g.1 157 24) - (g.1 157 25)) = (nI (mm_tx p0).length)
      · rw [if_pos hc10] at h
        refine ev_iff rfl (cn_f (fun q => q hc10)) ?_
        refine ev_rn (n := 3) (i2 := 19) (L2 := [some (.ref 157), some (.ref p0), some (.int (1 : Int32))]) (st2 := []) (g2 := g) cdE_45 rfl ?_
        exact ev_wk (L := [some (.ref 157), some (.ref p0), some (.int (1 : Int32))]) (tj_Mo_is_19  p0 (1 : Int32) hp0 g h) ⟨rfl, ⟨rfl, ⟨rfl, trivial⟩⟩⟩
      · rw [if_neg hc10] at h
        refine ev_ift cdE_45 rfl (cn_t hc10) ?_
        exact ev_wk (L := [some (.ref 157), some (.ref p0)]) (tj_Mo_is_17  p0 hp0 g h) ⟨rfl, ⟨rfl, trivial⟩⟩
    · rw [if_neg hc9] at h
      refine ev_ift cdE_45 rfl (cn_t hc9) ?_
      exact ev_wk (L := [some (.ref 157), some (.ref p0)]) (tj_Mo_is_17  p0 hp0 g h) ⟨rfl, ⟨rfl, trivial⟩⟩
def f_Mo_errs (p0 : Int32) (g : M2) : M2 := (if (f_Mo_good g) = 0 then g else (uI (uI g 157 28 p0) 157 29 ((uI g 157 28 p0).1 157 25)))
theorem e_Mo_errs {Lx : Nat} (p0 : Int32)  (g : M2) {b : M2} (h : f_Mo_errs p0 g = b) : Ev Lx 46 cd_46 0 [some (.ref 157), some (.int p0)] [] g (none, b) := by
  unfold f_Mo_errs at h
  refine ev_rn (n := 1) (i2 := 1) (L2 := [some (.ref 157), some (.int p0)]) (st2 := [.ref 157]) (g2 := g) cdE_46 rfl ?_
  refine ev_call rfl cdE_44 rfl rfl rfl (e_Mo_good   g rfl) ?_
  by_cases hc1 : (f_Mo_good g) = 0
  · rw [if_pos hc1] at h
    refine ev_zff rfl (cn_f (fun q => q hc1)) ?_
    subst h
    exact ev_ret rfl rfl
  · rw [if_neg hc1] at h
    refine ev_zft cdE_46 rfl (cn_t hc1) ?_
    refine ev_rn (n := 7) (i2 := 11) (L2 := [some (.ref 157), some (.int p0)]) (st2 := []) (g2 := (uI (uI g 157 28 p0) 157 29 ((uI g 157 28 p0).1 157 25))) cdE_46 rfl ?_
    subst h
    exact ev_ret rfl rfl
def f_Mo_expects (p0 : Nat) (g : M2) : Option (M2) := ((f_Mo_is p0 g).bind fun q1 => (if q1 = 0 then some (f_Mo_errs (1 : Int32) g) else ((f_Mo_advance g).bind fun q3 => some q3)))
theorem e_Mo_expects {Lx : Nat} (p0 : Nat) (hp0 : IsStr p0) (g : M2) {b : M2} (h : f_Mo_expects p0 g = some b) : Ev Lx 47 cd_47 0 [some (.ref 157), some (.ref p0)] [] g (none, b) := by
  unfold f_Mo_expects at h
  refine ev_rn (n := 2) (i2 := 2) (L2 := [some (.ref 157), some (.ref p0)]) (st2 := [.ref p0, .ref 157]) (g2 := g) cdE_47 rfl ?_
  obtain ⟨q1, hq1, h⟩ := Option.bind_eq_some_iff.mp h
  refine ev_call rfl cdE_45 rfl rfl rfl (e_Mo_is p0 hp0 g hq1) ?_
  by_cases hc2 : q1 = 0
  · rw [if_pos hc2] at h
    refine ev_zft cdE_47 rfl (cn_t hc2) ?_
    refine ev_rn (n := 2) (i2 := 9) (L2 := [some (.ref 157), some (.ref p0)]) (st2 := [.int (1 : Int32), .ref 157]) (g2 := g) cdE_47 rfl ?_
    refine ev_call rfl cdE_46 rfl rfl rfl (e_Mo_errs (1 : Int32)  g rfl) ?_
    cases h
    exact ev_ret rfl rfl
  · rw [if_neg hc2] at h
    refine ev_zff rfl (cn_f hc2) ?_
    refine ev_rn (n := 1) (i2 := 5) (L2 := [some (.ref 157), some (.ref p0)]) (st2 := [.ref 157]) (g2 := g) cdE_47 rfl ?_
    obtain ⟨q3, hq3, h⟩ := Option.bind_eq_some_iff.mp h
    refine ev_call rfl cdE_43 rfl rfl rfl (e_Mo_advance   g hq3) ?_
    refine ev_rn (n := 1) (i2 := 10) (L2 := [some (.ref 157), some (.ref p0)]) (st2 := []) (g2 := q3) cdE_47 rfl ?_
    cases h
    exact ev_ret rfl rfl
def j_Mo_takes_25  (g : M2) : Option (Int32 × M2) := (if (f_Mo_good g) = 0 then some ((0 : Int32), g) else ((f_Mo_advance g).bind fun q4 => some ((g.1 157 27), q4)))
theorem tj_Mo_takes_25 {Lx : Nat}    (g : M2) {b : (Int32 × M2)} (h : j_Mo_takes_25  g = some b) : Ev Lx 48 cd_48 25 [some (.ref 157)] [] g (some (.int b.1), b.2) := by
  unfold j_Mo_takes_25 at h
  refine ev_rn (n := 1) (i2 := 26) (L2 := [some (.ref 157)]) (st2 := [.ref 157]) (g2 := g) cdE_48 rfl ?_
  refine ev_call rfl cdE_44 rfl rfl rfl (e_Mo_good   g rfl) ?_
  by_cases hc3 : (f_Mo_good g) = 0
  · rw [if_pos hc3] at h
    refine ev_zff rfl (cn_f (fun q => q hc3)) ?_
    refine ev_rn (n := 1) (i2 := 29) (L2 := [some (.ref 157)]) (st2 := [.int (0 : Int32)]) (g2 := g) cdE_48 rfl ?_
    cases h
    exact ev_ret rfl rfl
  · rw [if_neg hc3] at h
    refine ev_zft cdE_48 rfl (cn_t hc3) ?_
    refine ev_rn (n := 4) (i2 := 34) (L2 := [some (.ref 157), none, none, some (.int (g.1 157 27))]) (st2 := [.ref 157]) (g2 := g) cdE_48 rfl ?_
    obtain ⟨q4, hq4, h⟩ := Option.bind_eq_some_iff.mp h
    refine ev_call rfl cdE_43 rfl rfl rfl (e_Mo_advance   g hq4) ?_
    refine ev_rn (n := 1) (i2 := 36) (L2 := [some (.ref 157), none, none, some (.int (g.1 157 27))]) (st2 := [.int (g.1 157 27)]) (g2 := q4) cdE_48 rfl ?_
    cases h
    exact ev_ret rfl rfl
def j_Mo_takes_10 (v1 : Int32) (v2 : Int32) (g : M2) : Option (Int32 × M2) := (if (f_Mo_good g) = 0 then (j_Mo_takes_25  g) else (if (f_Mo_in (g.1 157 27).toInt64 v1.toInt64 v2.toInt64 g) = 0 then (j_Mo_takes_25  (f_Mo_errs (2 : Int32) g)) else (j_Mo_takes_25  g)))
theorem tj_Mo_takes_10 {Lx : Nat}  (v1 : Int32) (v2 : Int32)  (g : M2) {b : (Int32 × M2)} (h : j_Mo_takes_10 v1 v2 g = some b) : Ev Lx 48 cd_48 10 [some (.ref 157), some (.int v1), some (.int v2)] [] g (some (.int b.1), b.2) := by
  unfold j_Mo_takes_10 at h
  refine ev_rn (n := 1) (i2 := 11) (L2 := [some (.ref 157), some (.int v1), some (.int v2)]) (st2 := [.ref 157]) (g2 := g) cdE_48 rfl ?_
  refine ev_call rfl cdE_44 rfl rfl rfl (e_Mo_good   g rfl) ?_
  by_cases hc2 : (f_Mo_good g) = 0
  · rw [if_pos hc2] at h
    refine ev_zft cdE_48 rfl (cn_t hc2) ?_
    exact ev_wk (L := [some (.ref 157)]) (tj_Mo_takes_25    g h) ⟨rfl, trivial⟩
  · rw [if_neg hc2] at h
    refine ev_zff rfl (cn_f hc2) ?_
    refine ev_rn (n := 7) (i2 := 20) (L2 := [some (.ref 157), some (.int v1), some (.int v2)]) (st2 := [.long v2.toInt64, .long v1.toInt64, .long (g.1 157 27).toInt64]) (g2 := g) cdE_48 rfl ?_
    refine ev_call rfl cdE_16 rfl rfl rfl (e_Mo_in (g.1 157 27).toInt64 v1.toInt64 v2.toInt64  g rfl) ?_
    by_cases hc5 : (f_Mo_in (g.1 157 27).toInt64 v1.toInt64 v2.toInt64 g) = 0
    · rw [if_pos hc5] at h
      refine ev_zff rfl (cn_f (fun q => q hc5)) ?_
      refine ev_rn (n := 2) (i2 := 24) (L2 := [some (.ref 157), some (.int v1), some (.int v2)]) (st2 := [.int (2 : Int32), .ref 157]) (g2 := g) cdE_48 rfl ?_
      refine ev_call rfl cdE_46 rfl rfl rfl (e_Mo_errs (2 : Int32)  g rfl) ?_
      exact ev_wk (L := [some (.ref 157)]) (tj_Mo_takes_25    (f_Mo_errs (2 : Int32) g) h) ⟨rfl, trivial⟩
    · rw [if_neg hc5] at h
      refine ev_zft cdE_48 rfl (cn_t hc5) ?_
      exact ev_wk (L := [some (.ref 157)]) (tj_Mo_takes_25    g h) ⟨rfl, trivial⟩
def f_Mo_takes (p0 : Int32) (p1 : Int32) (g : M2) : Option (Int32 × M2) := (if (f_Mo_good g) = 0 then (j_Mo_takes_10 p0 p1 g) else (if (g.1 157 26) = (2 : Int32) then (j_Mo_takes_10 p0 p1 g) else (j_Mo_takes_10 p0 p1 (f_Mo_errs (1 : Int32) g))))
theorem e_Mo_takes {Lx : Nat} (p0 : Int32) (p1 : Int32)  (g : M2) {b : (Int32 × M2)} (h : f_Mo_takes p0 p1 g = some b) : Ev Lx 48 cd_48 0 [some (.ref 157), some (.int p0), some (.int p1)] [] g (some (.int b.1), b.2) := by
  unfold f_Mo_takes at h
  refine ev_rn (n := 1) (i2 := 1) (L2 := [some (.ref 157), some (.int p0), some (.int p1)]) (st2 := [.ref 157]) (g2 := g) cdE_48 rfl ?_
  refine ev_call rfl cdE_44 rfl rfl rfl (e_Mo_good   g rfl) ?_
  by_cases hc1 : (f_Mo_good g) = 0
  · rw [if_pos hc1] at h
    refine ev_zft cdE_48 rfl (cn_t hc1) ?_
    exact ev_wk (L := [some (.ref 157), some (.int p0), some (.int p1)]) (tj_Mo_takes_10  p0 p1  g h) ⟨rfl, ⟨rfl, ⟨rfl, trivial⟩⟩⟩
  · rw [if_neg hc1] at h
    refine ev_zff rfl (cn_f hc1) ?_
    refine ev_rn (n := 3) (i2 := 6) (L2 := [some (.ref 157), some (.int p0), some (.int p1)]) (st2 := [.int (2 : Int32), .int (g.1 157 26)]) (g2 := g) cdE_48 rfl ?_
    by_cases hc6 : (g.1 157 26) = (2 : Int32)
    · rw [if_pos hc6] at h
      refine ev_ift cdE_48 rfl (cn_t hc6) ?_
      exact ev_wk (L := [some (.ref 157), some (.int p0), some (.int p1)]) (tj_Mo_takes_10  p0 p1  g h) ⟨rfl, ⟨rfl, ⟨rfl, trivial⟩⟩⟩
    · rw [if_neg hc6] at h
      refine ev_iff rfl (cn_f hc6) ?_
      refine ev_rn (n := 2) (i2 := 9) (L2 := [some (.ref 157), some (.int p0), some (.int p1)]) (st2 := [.int (1 : Int32), .ref 157]) (g2 := g) cdE_48 rfl ?_
      refine ev_call rfl cdE_46 rfl rfl rfl (e_Mo_errs (1 : Int32)  g rfl) ?_
      exact ev_wk (L := [some (.ref 157), some (.int p0), some (.int p1)]) (tj_Mo_takes_10  p0 p1  (f_Mo_errs (1 : Int32) g) h) ⟨rfl, ⟨rfl, ⟨rfl, trivial⟩⟩⟩
def b_Mo_readElement_18 (v1 : Int32) (v2 : Int32) (v3 : Int32) (g : M2) : Option ((Int32 × M2) ⊕ M2) := (if v2 ≤ v3 then some (.inr g) else (if (f_Mo_good g) = 0 then some (.inl ((v3 + (1 : Int32)), g)) else (if (g.1 157 26) = (2 : Int32) then (if inb ((2 : Int32) + v3) 19 then (if (g.1 161 ((2 : Int32) + v3).toNatClampNeg) = (g.1 157 27) then some (.inl ((v3 + (1 : Int32)), (f_Mo_errs (2 : Int32) g))) else some (.inl ((v3 + (1 : Int32)), g))) else none) else some (.inl ((v3 + (1 : Int32)), g)))))
theorem tb_Mo_readElement_18 {Lx : Nat} (v1 : Int32) (v2 : Int32)  (v3 : Int32) (g : M2) {b : (Int32 × M2) ⊕ M2} {o : Option Value × M2} (h : b_Mo_readElement_18 v1 v2 v3 g = some b) (hb : Sum.elim (fun s => Ev Lx 49 cd_49 18 [some (.ref 157), some (.int v1), some (.int v2), some (.int s.1)] [] s.2 o) (fun e => Ev Lx 49 cd_49 42 [some (.ref 157), some (.int v1), some (.int v2)] [] e o) b) : Ev Lx 49 cd_49 18 [some (.ref 157), some (.int v1), some (.int v2), some (.int v3)] [] g o := by
  unfold b_Mo_readElement_18 at h
  refine ev_rn (n := 2) (i2 := 20) (L2 := [some (.ref 157), some (.int v1), some (.int v2), some (.int v3)]) (st2 := [.int v2, .int v3]) (g2 := g) cdE_49 rfl ?_
  by_cases hc3 : v2 ≤ v3
  · rw [if_pos hc3] at h
    refine ev_ift cdE_49 rfl (cn_t hc3) ?_
    cases h
    exact ev_wk (L := [some (.ref 157), some (.int v1), some (.int v2)]) hb ⟨rfl, ⟨rfl, ⟨rfl, trivial⟩⟩⟩
  · rw [if_neg hc3] at h
    refine ev_iff rfl (cn_f hc3) ?_
    refine ev_rn (n := 1) (i2 := 22) (L2 := [some (.ref 157), some (.int v1), some (.int v2), some (.int v3)]) (st2 := [.ref 157]) (g2 := g) cdE_49 rfl ?_
    refine ev_call rfl cdE_44 rfl rfl rfl (e_Mo_good   g rfl) ?_
    by_cases hc4 : (f_Mo_good g) = 0
    · rw [if_pos hc4] at h
      refine ev_zft cdE_49 rfl (cn_t hc4) ?_
      refine ev_rn (n := 2) (i2 := 18) (L2 := [some (.ref 157), some (.int v1), some (.int v2), some (.int (v3 + (1 : Int32)))]) (st2 := []) (g2 := g) cdE_49 rfl ?_
      cases h
      exact ev_wk (L := [some (.ref 157), some (.int v1), some (.int v2), some (.int (v3 + (1 : Int32)))]) hb ⟨rfl, ⟨rfl, ⟨rfl, ⟨rfl, trivial⟩⟩⟩⟩
    · rw [if_neg hc4] at h
      refine ev_zff rfl (cn_f hc4) ?_
      refine ev_rn (n := 3) (i2 := 27) (L2 := [some (.ref 157), some (.int v1), some (.int v2), some (.int v3)]) (st2 := [.int (2 : Int32), .int (g.1 157 26)]) (g2 := g) cdE_49 rfl ?_
      by_cases hc5 : (g.1 157 26) = (2 : Int32)
      · rw [if_pos hc5] at h
        refine ev_iff rfl (cn_f (fun q => q hc5)) ?_
        refine ev_rn (n := 5) (i2 := 33) (L2 := [some (.ref 157), some (.int v1), some (.int v2), some (.int v3)]) (st2 := [.int ((2 : Int32) + v3), .ref 161]) (g2 := g) cdE_49 rfl ?_
        by_cases hi6 : inb ((2 : Int32) + v3) 19
        · rw [if_pos hi6] at h
          refine ev_iaload (v := .int (g.1 161 ((2 : Int32) + v3).toNatClampNeg)) rfl (kd_of (show S0[161]? = some (100, 19, List.replicate 19 none) from rfl)) (by decide) hi6 rfl ?_
          refine ev_rn (n := 2) (i2 := 36) (L2 := [some (.ref 157), some (.int v1), some (.int v2), some (.int v3)]) (st2 := [.int (g.1 157 27), .int (g.1 161 ((2 : Int32) + v3).toNatClampNeg)]) (g2 := g) cdE_49 rfl ?_
          by_cases hc7 : (g.1 161 ((2 : Int32) + v3).toNatClampNeg) = (g.1 157 27)
          · rw [if_pos hc7] at h
            refine ev_iff rfl (cn_f (fun q => q hc7)) ?_
            refine ev_rn (n := 2) (i2 := 39) (L2 := [some (.ref 157), some (.int v1), some (.int v2), some (.int v3)]) (st2 := [.int (2 : Int32), .ref 157]) (g2 := g) cdE_49 rfl ?_
            refine ev_call rfl cdE_46 rfl rfl rfl (e_Mo_errs (2 : Int32)  g rfl) ?_
            refine ev_rn (n := 2) (i2 := 18) (L2 := [some (.ref 157), some (.int v1), some (.int v2), some (.int (v3 + (1 : Int32)))]) (st2 := []) (g2 := (f_Mo_errs (2 : Int32) g)) cdE_49 rfl ?_
            cases h
            exact ev_wk (L := [some (.ref 157), some (.int v1), some (.int v2), some (.int (v3 + (1 : Int32)))]) hb ⟨rfl, ⟨rfl, ⟨rfl, ⟨rfl, trivial⟩⟩⟩⟩
          · rw [if_neg hc7] at h
            refine ev_ift cdE_49 rfl (cn_t hc7) ?_
            refine ev_rn (n := 2) (i2 := 18) (L2 := [some (.ref 157), some (.int v1), some (.int v2), some (.int (v3 + (1 : Int32)))]) (st2 := []) (g2 := g) cdE_49 rfl ?_
            cases h
            exact ev_wk (L := [some (.ref 157), some (.int v1), some (.int v2), some (.int (v3 + (1 : Int32)))]) hb ⟨rfl, ⟨rfl, ⟨rfl, ⟨rfl, trivial⟩⟩⟩⟩
        · rw [if_neg hi6] at h
          cases h
      · rw [if_neg hc5] at h
        refine ev_ift cdE_49 rfl (cn_t hc5) ?_
        refine ev_rn (n := 2) (i2 := 18) (L2 := [some (.ref 157), some (.int v1), some (.int v2), some (.int (v3 + (1 : Int32)))]) (st2 := []) (g2 := g) cdE_49 rfl ?_
        cases h
        exact ev_wk (L := [some (.ref 157), some (.int v1), some (.int v2), some (.int (v3 + (1 : Int32)))]) hb ⟨rfl, ⟨rfl, ⟨rfl, ⟨rfl, trivial⟩⟩⟩⟩
def j_Mo_readElement_16 (v1 : Int32) (v2 : Int32) (g : M2) : Option (M2) := ((lp (fun s => b_Mo_readElement_18 v1 v2 s.1 s.2) 5000 ((0 : Int32), g)).bind fun e8 => ((f_Mo_takes (0 : Int32) (11 : Int32) e8).bind fun q9 => (if (f_Mo_good q9.2) = 0 then some q9.2 else (if inb ((2 : Int32) + v2) 19 then (if inb ((7 : Int32) + v2) 19 then some (uI (uI (uI q9.2 161 ((2 : Int32) + v2).toNatClampNeg q9.1) 161 ((7 : Int32) + v2).toNatClampNeg v1) 161 1 (((uI (uI q9.2 161 ((2 : Int32) + v2).toNatClampNeg q9.1) 161 ((7 : Int32) + v2).toNatClampNeg v1).1 161 1) + (1 : Int32))) else none) else none))))
theorem tj_Mo_readElement_16 {Lx : Nat}  (v1 : Int32) (v2 : Int32)  (g : M2) {b : M2} (h : j_Mo_readElement_16 v1 v2 g = some b) : Ev Lx 49 cd_49 16 [some (.ref 157), some (.int v1), some (.int v2)] [] g (none, b) := by
  unfold j_Mo_readElement_16 at h
  refine ev_rn (n := 2) (i2 := 18) (L2 := [some (.ref 157), some (.int v1), some (.int v2), some (.int (0 : Int32))]) (st2 := []) (g2 := g) cdE_49 rfl ?_
  obtain ⟨e8, he8, h⟩ := Option.bind_eq_some_iff.mp h
  have hX13 : Ev Lx 49 cd_49 42 [some (.ref 157), some (.int v1), some (.int v2)] [] e8 (none, b) := by
    refine ev_rn (n := 3) (i2 := 45) (L2 := [some (.ref 157), some (.int v1), some (.int v2)]) (st2 := [.int (11 : Int32), .int (0 : Int32), .ref 157]) (g2 := e8) cdE_49 rfl ?_
    obtain ⟨q9, hq9, h⟩ := Option.bind_eq_some_iff.mp h
    refine ev_call rfl cdE_48 rfl rfl rfl (e_Mo_takes (0 : Int32) (11 : Int32)  e8 hq9) ?_
    refine ev_rn (n := 2) (i2 := 48) (L2 := [some (.ref 157), some (.int v1), some (.int v2), some (.int q9.1)]) (st2 := [.ref 157]) (g2 := q9.2) cdE_49 rfl ?_
    refine ev_call rfl cdE_44 rfl rfl rfl (e_Mo_good   q9.2 rfl) ?_
    by_cases hc10 : (f_Mo_good q9.2) = 0
    · rw [if_pos hc10] at h
      refine ev_zff rfl (cn_f (fun q => q hc10)) ?_
      cases h
      exact ev_ret rfl rfl
    · rw [if_neg hc10] at h
      refine ev_zft cdE_49 rfl (cn_t hc10) ?_
      refine ev_rn (n := 6) (i2 := 57) (L2 := [some (.ref 157), some (.int v1), some (.int v2), some (.int q9.1)]) (st2 := [.int q9.1, .int ((2 : Int32) + v2), .ref 161]) (g2 := q9.2) cdE_49 rfl ?_
      by_cases hi12 : inb ((2 : Int32) + v2) 19
      · rw [if_pos hi12] at h
        refine ev_iastore (g2 := (uI q9.2 161 ((2 : Int32) + v2).toNatClampNeg q9.1)) rfl (show S0[161]? = some (100, 19, List.replicate 19 none) from rfl) (by decide) hi12 rfl ?_
        refine ev_rn (n := 6) (i2 := 64) (L2 := [some (.ref 157), some (.int v1), some (.int v2), some (.int q9.1)]) (st2 := [.int v1, .int ((7 : Int32) + v2), .ref 161]) (g2 := (uI q9.2 161 ((2 : Int32) + v2).toNatClampNeg q9.1)) cdE_49 rfl ?_
        by_cases hi11 : inb ((7 : Int32) + v2) 19
        · rw [if_pos hi11] at h
          refine ev_iastore (g2 := (uI (uI q9.2 161 ((2 : Int32) + v2).toNatClampNeg q9.1) 161 ((7 : Int32) + v2).toNatClampNeg v1)) rfl (show S0[161]? = some (100, 19, List.replicate 19 none) from rfl) (by decide) hi11 rfl ?_
          refine ev_rn (n := 4) (i2 := 69) (L2 := [some (.ref 157), some (.int v1), some (.int v2), some (.int q9.1)]) (st2 := [.int (1 : Int32), .ref 161, .int (1 : Int32), .ref 161]) (g2 := (uI (uI q9.2 161 ((2 : Int32) + v2).toNatClampNeg q9.1) 161 ((7 : Int32) + v2).toNatClampNeg v1)) cdE_49 rfl ?_
          refine ev_iaload (v := .int ((uI (uI q9.2 161 ((2 : Int32) + v2).toNatClampNeg q9.1) 161 ((7 : Int32) + v2).toNatClampNeg v1).1 161 1)) rfl (kd_of (show S0[161]? = some (100, 19, List.replicate 19 none) from rfl)) (by decide) ⟨by decide, by decide⟩ rfl ?_
          refine ev_rn (n := 2) (i2 := 72) (L2 := [some (.ref 157), some (.int v1), some (.int v2), some (.int q9.1)]) (st2 := [.int (((uI (uI q9.2 161 ((2 : Int32) + v2).toNatClampNeg q9.1) 161 ((7 : Int32) + v2).toNatClampNeg v1).1 161 1) + (1 : Int32)), .int (1 : Int32), .ref 161]) (g2 := (uI (uI q9.2 161 ((2 : Int32) + v2).toNatClampNeg q9.1) 161 ((7 : Int32) + v2).toNatClampNeg v1)) cdE_49 rfl ?_
          refine ev_iastore (g2 := (uI (uI (uI q9.2 161 ((2 : Int32) + v2).toNatClampNeg q9.1) 161 ((7 : Int32) + v2).toNatClampNeg v1) 161 1 (((uI (uI q9.2 161 ((2 : Int32) + v2).toNatClampNeg q9.1) 161 ((7 : Int32) + v2).toNatClampNeg v1).1 161 1) + (1 : Int32)))) rfl (show S0[161]? = some (100, 19, List.replicate 19 none) from rfl) (by decide) ⟨by decide, by decide⟩ rfl ?_
          cases h
          exact ev_ret rfl rfl
        · rw [if_neg hi11] at h
          cases h
      · rw [if_neg hi12] at h
        cases h
  exact ev_wk (L := [some (.ref 157), some (.int v1), some (.int v2), some (.int (0 : Int32))]) (lp_ind (P := (fun (s : (Int32 × M2)) => Ev Lx 49 cd_49 18 [some (.ref 157), some (.int v1), some (.int v2), some (.int s.1)] [] s.2 (none, b))) (fun s s2 hs hP => tb_Mo_readElement_18 v1 v2  s.1 s.2 (b := .inl s2) hs hP) (fun s hs => tb_Mo_readElement_18 v1 v2  s.1 s.2 (b := .inr e8) hs hX13) _ _ he8) ⟨rfl, ⟨rfl, ⟨rfl, ⟨rfl, trivial⟩⟩⟩⟩
def j_Mo_readElement_11 (v1 : Int32) (v2 : Int32) (g : M2) : Option (M2) := (if (f_Mo_good g) = 0 then (j_Mo_readElement_16 v1 v2 g) else ((f_Mo_advance g).bind fun q14 => (j_Mo_readElement_16 v1 v2 q14)))
theorem tj_Mo_readElement_11 {Lx : Nat}  (v1 : Int32) (v2 : Int32)  (g : M2) {b : M2} (h : j_Mo_readElement_11 v1 v2 g = some b) : Ev Lx 49 cd_49 11 [some (.ref 157), some (.int v1), some (.int v2)] [] g (none, b) := by
  unfold j_Mo_readElement_11 at h
  refine ev_rn (n := 1) (i2 := 12) (L2 := [some (.ref 157), some (.int v1), some (.int v2)]) (st2 := [.ref 157]) (g2 := g) cdE_49 rfl ?_
  refine ev_call rfl cdE_44 rfl rfl rfl (e_Mo_good   g rfl) ?_
  by_cases hc2 : (f_Mo_good g) = 0
  · rw [if_pos hc2] at h
    refine ev_zft cdE_49 rfl (cn_t hc2) ?_
    exact ev_wk (L := [some (.ref 157), some (.int v1), some (.int v2)]) (tj_Mo_readElement_16  v1 v2  g h) ⟨rfl, ⟨rfl, ⟨rfl, trivial⟩⟩⟩
  · rw [if_neg hc2] at h
    refine ev_zff rfl (cn_f hc2) ?_
    refine ev_rn (n := 1) (i2 := 15) (L2 := [some (.ref 157), some (.int v1), some (.int v2)]) (st2 := [.ref 157]) (g2 := g) cdE_49 rfl ?_
    obtain ⟨q14, hq14, h⟩ := Option.bind_eq_some_iff.mp h
    refine ev_call rfl cdE_43 rfl rfl rfl (e_Mo_advance   g hq14) ?_
    exact ev_wk (L := [some (.ref 157), some (.int v1), some (.int v2)]) (tj_Mo_readElement_16  v1 v2  q14 h) ⟨rfl, ⟨rfl, ⟨rfl, trivial⟩⟩⟩
def f_Mo_readElement (p0 : Int32) (g : M2) : Option (M2) := (if (g.1 161 1) = (5 : Int32) then (j_Mo_readElement_11 p0 (g.1 161 1) (f_Mo_errs (3 : Int32) g)) else (j_Mo_readElement_11 p0 (g.1 161 1) g))
theorem e_Mo_readElement {Lx : Nat} (p0 : Int32)  (g : M2) {b : M2} (h : f_Mo_readElement p0 g = some b) : Ev Lx 49 cd_49 0 [some (.ref 157), some (.int p0)] [] g (none, b) := by
  unfold f_Mo_readElement at h
  refine ev_rn (n := 3) (i2 := 3) (L2 := [some (.ref 157), some (.int p0)]) (st2 := [.int (1 : Int32), .ref 161]) (g2 := g) cdE_49 rfl ?_
  refine ev_iaload (v := .int (g.1 161 1)) rfl (kd_of (show S0[161]? = some (100, 19, List.replicate 19 none) from rfl)) (by decide) ⟨by decide, by decide⟩ rfl ?_
  refine ev_rn (n := 3) (i2 := 7) (L2 := [some (.ref 157), some (.int p0), some (.int (g.1 161 1))]) (st2 := [.int (5 : Int32), .int (g.1 161 1)]) (g2 := g) cdE_49 rfl ?_
  by_cases hc1 : (g.1 161 1) = (5 : Int32)
  · rw [if_pos hc1] at h
    refine ev_iff rfl (cn_f (fun q => q hc1)) ?_
    refine ev_rn (n := 2) (i2 := 10) (L2 := [some (.ref 157), some (.int p0), some (.int (g.1 161 1))]) (st2 := [.int (3 : Int32), .ref 157]) (g2 := g) cdE_49 rfl ?_
    refine ev_call rfl cdE_46 rfl rfl rfl (e_Mo_errs (3 : Int32)  g rfl) ?_
    exact ev_wk (L := [some (.ref 157), some (.int p0), some (.int (g.1 161 1))]) (tj_Mo_readElement_11  p0 (g.1 161 1)  (f_Mo_errs (3 : Int32) g) h) ⟨rfl, ⟨rfl, ⟨rfl, trivial⟩⟩⟩
  · rw [if_neg hc1] at h
    refine ev_ift cdE_49 rfl (cn_t hc1) ?_
    exact ev_wk (L := [some (.ref 157), some (.int p0), some (.int (g.1 161 1))]) (tj_Mo_readElement_11  p0 (g.1 161 1)  g h) ⟨rfl, ⟨rfl, ⟨rfl, trivial⟩⟩⟩
def b_Mo_wasTold_13  (v1 : Int32) (g : M2) : Option (Int32 ⊕ (Unit ⊕ Int32)) := (if (g.1 161 13) ≤ v1 then some (.inr (.inl ())) else (if inb ((14 : Int32) + v1) 19 then (if (g.1 161 ((14 : Int32) + v1).toNatClampNeg) = (g.1 157 27) then some (.inr (.inr (1 : Int32))) else some (.inl (v1 + (1 : Int32)))) else none))
theorem tb_Mo_wasTold_13 {Lx : Nat}   (v1 : Int32) (g : M2) {b : Int32 ⊕ (Unit ⊕ Int32)} {o : Option Value × M2} (h : b_Mo_wasTold_13 v1 g = some b) (hb : Sum.elim (fun s => Ev Lx 50 cd_50 13 [some (.ref 157), some (.int s)] [] g o) (Sum.elim (fun e => Ev Lx 50 cd_50 32 [] [] g o) (fun r => o = (some (.int r), g))) b) : Ev Lx 50 cd_50 13 [some (.ref 157), some (.int v1)] [] g o := by
  unfold b_Mo_wasTold_13 at h
  refine ev_rn (n := 4) (i2 := 17) (L2 := [some (.ref 157), some (.int v1)]) (st2 := [.int (13 : Int32), .ref 161, .int v1]) (g2 := g) cdE_50 rfl ?_
  refine ev_iaload (v := .int (g.1 161 13)) rfl (kd_of (show S0[161]? = some (100, 19, List.replicate 19 none) from rfl)) (by decide) ⟨by decide, by decide⟩ rfl ?_
  by_cases hc2 : (g.1 161 13) ≤ v1
  · rw [if_pos hc2] at h
    refine ev_ift cdE_50 rfl (cn_t hc2) ?_
    cases h
    exact ev_wk (L := []) hb trivial
  · rw [if_neg hc2] at h
    refine ev_iff rfl (cn_f hc2) ?_
    refine ev_rn (n := 5) (i2 := 24) (L2 := [some (.ref 157), some (.int v1)]) (st2 := [.int ((14 : Int32) + v1), .ref 161]) (g2 := g) cdE_50 rfl ?_
    by_cases hi3 : inb ((14 : Int32) + v1) 19
    · rw [if_pos hi3] at h
      refine ev_iaload (v := .int (g.1 161 ((14 : Int32) + v1).toNatClampNeg)) rfl (kd_of (show S0[161]? = some (100, 19, List.replicate 19 none) from rfl)) (by decide) hi3 rfl ?_
      refine ev_rn (n := 2) (i2 := 27) (L2 := [some (.ref 157), some (.int v1)]) (st2 := [.int (g.1 157 27), .int (g.1 161 ((14 : Int32) + v1).toNatClampNeg)]) (g2 := g) cdE_50 rfl ?_
      by_cases hc4 : (g.1 161 ((14 : Int32) + v1).toNatClampNeg) = (g.1 157 27)
      · rw [if_pos hc4] at h
        refine ev_iff rfl (cn_f (fun q => q hc4)) ?_
        refine ev_rn (n := 1) (i2 := 29) (L2 := [some (.ref 157), some (.int v1)]) (st2 := [.int (1 : Int32)]) (g2 := g) cdE_50 rfl ?_
        cases h
        cases hb
        exact ev_ret rfl rt_1
      · rw [if_neg hc4] at h
        refine ev_ift cdE_50 rfl (cn_t hc4) ?_
        refine ev_rn (n := 2) (i2 := 13) (L2 := [some (.ref 157), some (.int (v1 + (1 : Int32)))]) (st2 := []) (g2 := g) cdE_50 rfl ?_
        cases h
        exact ev_wk (L := [some (.ref 157), some (.int (v1 + (1 : Int32)))]) hb ⟨rfl, ⟨rfl, trivial⟩⟩
    · rw [if_neg hi3] at h
      cases h
def f_Mo_wasTold  (g : M2) : Option (Int32) := (if (g.1 161 12) = ((g.1 157 27) + (1 : Int32)) then some (1 : Int32) else ((lp (fun s => b_Mo_wasTold_13  s g) 5000 (0 : Int32)).bind fun ue5 => Sum.elim (fun e5 => some (0 : Int32)) (fun b => some re5) ue5))
theorem e_Mo_wasTold {Lx : Nat}   (g : M2) {b : Int32} (h : f_Mo_wasTold  g = some b) : Ev Lx 50 cd_50 0 [some (.ref 157)] [] g (some (.int b), g) := by
  unfold f_Mo_wasTold at h
  refine ev_rn (n := 3) (i2 := 3) (L2 := [some (.ref 157)]) (st2 := [.int (12 : Int32), .ref 161]) (g2 := g) cdE_50 rfl ?_
  refine ev_iaload (v := .int (g.1 161 12)) rfl (kd_of (show S0[161]? = some (100, 19, List.replicate 19 none) from rfl)) (by decide) ⟨by decide, by decide⟩ rfl ?_
  refine ev_rn (n := 4) (i2 := 8) (L2 := [some (.ref 157)]) (st2 := [.int ((g.1 157 27) + (1 : Int32)), .int (g.1 161 12)]) (g2 := g) cdE_50 rfl ?_
  by_cases hc1 : (g.1 161 12) = ((g.1 157 27) + (1 : Int32))
  · rw [if_pos hc1] at h
    refine ev_iff rfl (cn_f (fun q => q hc1)) ?_
    refine ev_rn (n := 1) (i2 := 10) (L2 := [some (.ref 157)]) (st2 := [.int (1 : Int32)]) (g2 := g) cdE_50 rfl ?_
    cases h
    exact ev_ret rfl rt_1
  · rw [if_neg hc1] at h
    refine ev_ift cdE_50 rfl (cn_t hc1) ?_
    refine ev_rn (n := 2) (i2 := 13) (L2 := [some (.ref 157), some (.int (0 : Int32))]) (st2 := []) (g2 := g) cdE_50 rfl ?_
    obtain ⟨ue5, he5, h⟩ := Option.bind_eq_some_iff.mp h
    cases ue5 with
    | inl e5 =>
      replace h := h
      have hX6 : Ev Lx 50 cd_50 32 [] [] g (some (.int b), g) := by
        simp only [Sum.elim_inl] at h
        refine ev_rn (n := 1) (i2 := 33) (L2 := []) (st2 := [.int (0 : Int32)]) (g2 := g) cdE_50 rfl ?_
        cases h
        exact ev_ret rfl rt_0
      exact ev_wk (L := [some (.ref 157), some (.int (0 : Int32))]) (lp_ind (P := (fun (s : Int32) => Ev Lx 50 cd_50 13 [some (.ref 157), some (.int s)] [] g (some (.int b), g))) (fun s s2 hs hP => tb_Mo_wasTold_13   s g (b := .inl s2) hs hP) (fun s hs => tb_Mo_wasTold_13   s g (b := .inr (.inl e5)) hs hX6) _ _ he5) ⟨rfl, ⟨rfl, trivial⟩⟩
    | inr re5 =>
      simp only [Sum.elim_inr] at h
      cases h
      exact ev_wk (L := [some (.ref 157), some (.int (0 : Int32))]) (lp_ind (P := (fun (s : Int32) => Ev Lx 50 cd_50 13 [some (.ref 157), some (.int s)] [] g (some (.int b), g))) (fun s s2 hs hP => tb_Mo_wasTold_13   s g (b := .inl s2) hs hP) (fun s hs => tb_Mo_wasTold_13   s g (b := .inr (.inr b)) hs rfl) _ _ he5) ⟨rfl, ⟨rfl, trivial⟩⟩
def j_Mo_readDirection_35 (v1 : Int32) (g : M2) : Option (M2) := ((f_Mo_takes (0 : Int32) (11 : Int32) g).bind fun q5 => (if (f_Mo_good q5.2) = 0 then some q5.2 else (if v1 = 0 then (if inb ((14 : Int32) + (q5.2.1 161 13)) 19 then some (uI (uI q5.2 161 ((14 : Int32) + (q5.2.1 161 13)).toNatClampNeg q5.1) 161 13 (((uI q5.2 161 ((14 : Int32) + (q5.2.1 161 13)).toNatClampNeg q5.1).1 161 13) + (1 : Int32))) else none) else some (uI q5.2 161 12 (q5.1 + (1 : Int32))))))
theorem tj_Mo_readDirection_35 {Lx : Nat}  (v1 : Int32)  (g : M2) {b : M2} (h : j_Mo_readDirection_35 v1 g = some b) : Ev Lx 51 cd_51 35 [some (.ref 157), some (.int v1)] [] g (none, b) := by
  unfold j_Mo_readDirection_35 at h
  refine ev_rn (n := 3) (i2 := 38) (L2 := [some (.ref 157), some (.int v1)]) (st2 := [.int (11 : Int32), .int (0 : Int32), .ref 157]) (g2 := g) cdE_51 rfl ?_
  obtain ⟨q5, hq5, h⟩ := Option.bind_eq_some_iff.mp h
  refine ev_call rfl cdE_48 rfl rfl rfl (e_Mo_takes (0 : Int32) (11 : Int32)  g hq5) ?_
  refine ev_rn (n := 2) (i2 := 41) (L2 := [some (.ref 157), some (.int v1), some (.int q5.1)]) (st2 := [.ref 157]) (g2 := q5.2) cdE_51 rfl ?_
  refine ev_call rfl cdE_44 rfl rfl rfl (e_Mo_good   q5.2 rfl) ?_
  by_cases hc6 : (f_Mo_good q5.2) = 0
  · rw [if_pos hc6] at h
    refine ev_zff rfl (cn_f (fun q => q hc6)) ?_
    cases h
    exact ev_ret rfl rfl
  · rw [if_neg hc6] at h
    refine ev_zft cdE_51 rfl (cn_t hc6) ?_
    refine ev_rn (n := 1) (i2 := 45) (L2 := [some (.ref 157), some (.int v1), some (.int q5.1)]) (st2 := [.int v1]) (g2 := q5.2) cdE_51 rfl ?_
    by_cases hc7 : v1 = 0
    · rw [if_pos hc7] at h
      refine ev_zft cdE_51 rfl (cn_t hc7) ?_
      refine ev_rn (n := 6) (i2 := 60) (L2 := [some (.ref 157), some (.int v1), some (.int q5.1)]) (st2 := [.int (13 : Int32), .ref 161, .int (14 : Int32), .ref 161]) (g2 := q5.2) cdE_51 rfl ?_
      refine ev_iaload (v := .int (q5.2.1 161 13)) rfl (kd_of (show S0[161]? = some (100, 19, List.replicate 19 none) from rfl)) (by decide) ⟨by decide, by decide⟩ rfl ?_
      refine ev_rn (n := 2) (i2 := 63) (L2 := [some (.ref 157), some (.int v1), some (.int q5.1)]) (st2 := [.int q5.1, .int ((14 : Int32) + (q5.2.1 161 13)), .ref 161]) (g2 := q5.2) cdE_51 rfl ?_
      by_cases hi8 : inb ((14 : Int32) + (q5.2.1 161 13)) 19
      · rw [if_pos hi8] at h
        refine ev_iastore (g2 := (uI q5.2 161 ((14 : Int32) + (q5.2.1 161 13)).toNatClampNeg q5.1)) rfl (show S0[161]? = some (100, 19, List.replicate 19 none) from rfl) (by decide) hi8 rfl ?_
        refine ev_rn (n := 4) (i2 := 68) (L2 := [some (.ref 157), some (.int v1), some (.int q5.1)]) (st2 := [.int (13 : Int32), .ref 161, .int (13 : Int32), .ref 161]) (g2 := (uI q5.2 161 ((14 : Int32) + (q5.2.1 161 13)).toNatClampNeg q5.1)) cdE_51 rfl ?_
        refine ev_iaload (v := .int ((uI q5.2 161 ((14 : Int32) + (q5.2.1 161 13)).toNatClampNeg q5.1).1 161 13)) rfl (kd_of (show S0[161]? = some (100, 19, List.replicate 19 none) from rfl)) (by decide) ⟨by decide, by decide⟩ rfl ?_
        refine ev_rn (n := 2) (i2 := 71) (L2 := [some (.ref 157), some (.int v1), some (.int q5.1)]) (st2 := [.int (((uI q5.2 161 ((14 : Int32) + (q5.2.1 161 13)).toNatClampNeg q5.1).1 161 13) + (1 : Int32)), .int (13 : Int32), .ref 161]) (g2 := (uI q5.2 161 ((14 : Int32) + (q5.2.1 161 13)).toNatClampNeg q5.1)) cdE_51 rfl ?_
        refine ev_iastore (g2 := (uI (uI q5.2 161 ((14 : Int32) + (q5.2.1 161 13)).toNatClampNeg q5.1) 161 13 (((uI q5.2 161 ((14 : Int32) + (q5.2.1 161 13)).toNatClampNeg q5.1).1 161 13) + (1 : Int32)))) rfl (show S0[161]? = some (100, 19, List.replicate 19 none) from rfl) (by decide) ⟨by decide, by decide⟩ rfl ?_
        cases h
        exact ev_ret rfl rfl
      · rw [if_neg hi8] at h
        cases h
    · rw [if_neg hc7] at h
      refine ev_zff rfl (cn_f hc7) ?_
      refine ev_rn (n := 6) (i2 := 52) (L2 := [some (.ref 157), some (.int v1), some (.int q5.1)]) (st2 := [.int (q5.1 + (1 : Int32)), .int (12 : Int32), .ref 161]) (g2 := q5.2) cdE_51 rfl ?_
      refine ev_iastore (g2 := (uI q5.2 161 12 (q5.1 + (1 : Int32)))) rfl (show S0[161]? = some (100, 19, List.replicate 19 none) from rfl) (by decide) ⟨by decide, by decide⟩ rfl ?_
      refine ev_rn (n := 1) (i2 := 72) (L2 := [some (.ref 157), some (.int v1), some (.int q5.1)]) (st2 := []) (g2 := (uI q5.2 161 12 (q5.1 + (1 : Int32)))) cdE_51 rfl ?_
      cases h
      exact ev_ret rfl rfl
def j_Mo_readDirection_22 (v1 : Int32) (g : M2) : Option (M2) := (if (f_Mo_good g) = 0 then (j_Mo_readDirection_35 v1 g) else (if (g.1 157 26) = (2 : Int32) then ((f_Mo_wasTold g).bind fun q10 => (if q10 = 0 then (j_Mo_readDirection_35 v1 g) else (j_Mo_readDirection_35 v1 (f_Mo_errs (2 : Int32) g)))) else (j_Mo_readDirection_35 v1 g)))
theorem tj_Mo_readDirection_22 {Lx : Nat}  (v1 : Int32)  (g : M2) {b : M2} (h : j_Mo_readDirection_22 v1 g = some b) : Ev Lx 51 cd_51 22 [some (.ref 157), some (.int v1)] [] g (none, b) := by
  unfold j_Mo_readDirection_22 at h
  refine ev_rn (n := 1) (i2 := 23) (L2 := [some (.ref 157), some (.int v1)]) (st2 := [.ref 157]) (g2 := g) cdE_51 rfl ?_
  refine ev_call rfl cdE_44 rfl rfl rfl (e_Mo_good   g rfl) ?_
  by_cases hc4 : (f_Mo_good g) = 0
  · rw [if_pos hc4] at h
    refine ev_zft cdE_51 rfl (cn_t hc4) ?_
    exact ev_wk (L := [some (.ref 157), some (.int v1)]) (tj_Mo_readDirection_35  v1  g h) ⟨rfl, ⟨rfl, trivial⟩⟩
  · rw [if_neg hc4] at h
    refine ev_zff rfl (cn_f hc4) ?_
    refine ev_rn (n := 3) (i2 := 28) (L2 := [some (.ref 157), some (.int v1)]) (st2 := [.int (2 : Int32), .int (g.1 157 26)]) (g2 := g) cdE_51 rfl ?_
    by_cases hc9 : (g.1 157 26) = (2 : Int32)
    · rw [if_pos hc9] at h
      refine ev_iff rfl (cn_f (fun q => q hc9)) ?_
      refine ev_rn (n := 1) (i2 := 30) (L2 := [some (.ref 157), some (.int v1)]) (st2 := [.ref 157]) (g2 := g) cdE_51 rfl ?_
      obtain ⟨q10, hq10, h⟩ := Option.bind_eq_some_iff.mp h
      refine ev_call rfl cdE_50 rfl rfl rfl (e_Mo_wasTold   g hq10) ?_
      by_cases hc11 : q10 = 0
      · rw [if_pos hc11] at h
        refine ev_zft cdE_51 rfl (cn_t hc11) ?_
        exact ev_wk (L := [some (.ref 157), some (.int v1)]) (tj_Mo_readDirection_35  v1  g h) ⟨rfl, ⟨rfl, trivial⟩⟩
      · rw [if_neg hc11] at h
        refine ev_zff rfl (cn_f hc11) ?_
        refine ev_rn (n := 2) (i2 := 34) (L2 := [some (.ref 157), some (.int v1)]) (st2 := [.int (2 : Int32), .ref 157]) (g2 := g) cdE_51 rfl ?_
        refine ev_call rfl cdE_46 rfl rfl rfl (e_Mo_errs (2 : Int32)  g rfl) ?_
        exact ev_wk (L := [some (.ref 157), some (.int v1)]) (tj_Mo_readDirection_35  v1  (f_Mo_errs (2 : Int32) g) h) ⟨rfl, ⟨rfl, trivial⟩⟩
    · rw [if_neg hc9] at h
      refine ev_ift cdE_51 rfl (cn_t hc9) ?_
      exact ev_wk (L := [some (.ref 157), some (.int v1)]) (tj_Mo_readDirection_35  v1  g h) ⟨rfl, ⟨rfl, trivial⟩⟩
def j_Mo_readDirection_17 (v1 : Int32) (g : M2) : Option (M2) := (if (f_Mo_good g) = 0 then (j_Mo_readDirection_22 v1 g) else ((f_Mo_advance g).bind fun q12 => (j_Mo_readDirection_22 v1 q12)))
theorem tj_Mo_readDirection_17 {Lx : Nat}  (v1 : Int32)  (g : M2) {b : M2} (h : j_Mo_readDirection_17 v1 g = some b) : Ev Lx 51 cd_51 17 [some (.ref 157), some (.int v1)] [] g (none, b) := by
  unfold j_Mo_readDirection_17 at h
  refine ev_rn (n := 1) (i2 := 18) (L2 := [some (.ref 157), some (.int v1)]) (st2 := [.ref 157]) (g2 := g) cdE_51 rfl ?_
  refine ev_call rfl cdE_44 rfl rfl rfl (e_Mo_good   g rfl) ?_
  by_cases hc3 : (f_Mo_good g) = 0
  · rw [if_pos hc3] at h
    refine ev_zft cdE_51 rfl (cn_t hc3) ?_
    exact ev_wk (L := [some (.ref 157), some (.int v1)]) (tj_Mo_readDirection_22  v1  g h) ⟨rfl, ⟨rfl, trivial⟩⟩
  · rw [if_neg hc3] at h
    refine ev_zff rfl (cn_f hc3) ?_
    refine ev_rn (n := 1) (i2 := 21) (L2 := [some (.ref 157), some (.int v1)]) (st2 := [.ref 157]) (g2 := g) cdE_51 rfl ?_
    obtain ⟨q12, hq12, h⟩ := Option.bind_eq_some_iff.mp h
    refine ev_call rfl cdE_43 rfl rfl rfl (e_Mo_advance   g hq12) ?_
    exact ev_wk (L := [some (.ref 157), some (.int v1)]) (tj_Mo_readDirection_22  v1  q12 h) ⟨rfl, ⟨rfl, trivial⟩⟩
def j_Mo_readDirection_14 (v1 : Int32) (g : M2) : Option (M2) := (j_Mo_readDirection_17 v1 (f_Mo_errs (3 : Int32) g))
theorem tj_Mo_readDirection_14 {Lx : Nat}  (v1 : Int32)  (g : M2) {b : M2} (h : j_Mo_readDirection_14 v1 g = some b) : Ev Lx 51 cd_51 14 [some (.ref 157), some (.int v1)] [] g (none, b) := by
  unfold j_Mo_readDirection_14 at h
  refine ev_rn (n := 2) (i2 := 16) (L2 := [some (.ref 157), some (.int v1)]) (st2 := [.int (3 : Int32), .ref 157]) (g2 := g) cdE_51 rfl ?_
  refine ev_call rfl cdE_46 rfl rfl rfl (e_Mo_errs (3 : Int32)  g rfl) ?_
  exact ev_wk (L := [some (.ref 157), some (.int v1)]) (tj_Mo_readDirection_17  v1  (f_Mo_errs (3 : Int32) g) h) ⟨rfl, ⟨rfl, trivial⟩⟩
def f_Mo_readDirection (p0 : Int32) (g : M2) : Option (M2) := (if p0 = 0 then (if (g.1 161 13) = (4 : Int32) then (j_Mo_readDirection_14 p0 g) else (j_Mo_readDirection_17 p0 g)) else (if (g.1 161 12) ≤ 0 then (j_Mo_readDirection_17 p0 g) else (j_Mo_readDirection_14 p0 g)))
theorem e_Mo_readDirection {Lx : Nat} (p0 : Int32)  (g : M2) {b : M2} (h : f_Mo_readDirection p0 g = some b) : Ev Lx 51 cd_51 0 [some (.ref 157), some (.int p0)] [] g (none, b) := by
  unfold f_Mo_readDirection at h
  refine ev_rn (n := 1) (i2 := 1) (L2 := [some (.ref 157), some (.int p0)]) (st2 := [.int p0]) (g2 := g) cdE_51 rfl ?_
  by_cases hc1 : p0 = 0
  · rw [if_pos hc1] at h
    refine ev_zft cdE_51 rfl (cn_t hc1) ?_
    refine ev_rn (n := 3) (i2 := 11) (L2 := [some (.ref 157), some (.int p0)]) (st2 := [.int (13 : Int32), .ref 161]) (g2 := g) cdE_51 rfl ?_
    refine ev_iaload (v := .int (g.1 161 13)) rfl (kd_of (show S0[161]? = some (100, 19, List.replicate 19 none) from rfl)) (by decide) ⟨by decide, by decide⟩ rfl ?_
    refine ev_rn (n := 1) (i2 := 13) (L2 := [some (.ref 157), some (.int p0)]) (st2 := [.int (4 : Int32), .int (g.1 161 13)]) (g2 := g) cdE_51 rfl ?_
    by_cases hc2 : (g.1 161 13) = (4 : Int32)
    · rw [if_pos hc2] at h
      refine ev_iff rfl (cn_f (fun q => q hc2)) ?_
      exact ev_wk (L := [some (.ref 157), some (.int p0)]) (tj_Mo_readDirection_14  p0  g h) ⟨rfl, ⟨rfl, trivial⟩⟩
    · rw [if_neg hc2] at h
      refine ev_ift cdE_51 rfl (cn_t hc2) ?_
      exact ev_wk (L := [some (.ref 157), some (.int p0)]) (tj_Mo_readDirection_17  p0  g h) ⟨rfl, ⟨rfl, trivial⟩⟩
  · rw [if_neg hc1] at h
    refine ev_zff rfl (cn_f hc1) ?_
    refine ev_rn (n := 3) (i2 := 5) (L2 := [some (.ref 157), some (.int p0)]) (st2 := [.int (12 : Int32), .ref 161]) (g2 := g) cdE_51 rfl ?_
    refine ev_iaload (v := .int (g.1 161 12)) rfl (kd_of (show S0[161]? = some (100, 19, List.replicate 19 none) from rfl)) (by decide) ⟨by decide, by decide⟩ rfl ?_
    by_cases hc13 : (g.1 161 12) ≤ 0
    · rw [if_pos hc13] at h
      refine ev_zft cdE_51 rfl (cn_t hc13) ?_
      exact ev_wk (L := [some (.ref 157), some (.int p0)]) (tj_Mo_readDirection_17  p0  g h) ⟨rfl, ⟨rfl, trivial⟩⟩
    · rw [if_neg hc13] at h
      refine ev_zff rfl (cn_f hc13) ?_
      refine ev_rn (n := 1) (i2 := 14) (L2 := [some (.ref 157), some (.int p0)]) (st2 := []) (g2 := g) cdE_51 rfl ?_
      exact ev_wk (L := [some (.ref 157), some (.int p0)]) (tj_Mo_readDirection_14  p0  g h) ⟨rfl, ⟨rfl, trivial⟩⟩
