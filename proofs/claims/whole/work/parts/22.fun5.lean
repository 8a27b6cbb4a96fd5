def j_Cu_rootOfStep_6 (v0 : Nat) (v1 : Int32) (v2 : Int32) (v3 : Int32) (v5 : Int32) (g : M2) : Option (Int32) := (if inb v1 4 then (if inb v2 5 then some ((v3 + ((g.1 (v0 + 2) v1.toNatClampNeg) * (g.1 (v0 + 1) v2.toNatClampNeg))) + v5) else none) else none)
theorem tj_Cu_rootOfStep_6 {Lx : Nat}  (v0 : Nat) (v1 : Int32) (v2 : Int32) (v3 : Int32) (v5 : Int32) (hv0 : IsPlan v0) (g : M2) {b : Int32} (h : j_Cu_rootOfStep_6 v0 v1 v2 v3 v5 g = some b) : Ev Lx 236 cd_236 6 [some (.ref v0), some (.int v1), some (.int v2), some (.int v3), none, some (.int v5)] [] g (some (.int b), g) := by
  unfold j_Cu_rootOfStep_6 at h
  refine ev_rn (n := 2) (i2 := 8) (L2 := [some (.ref v0), some (.int v1), some (.int v2), some (.int v3), none, some (.int v5)]) (st2 := [.ref v0, .int v3]) (g2 := g) cdE_236 rfl ?_
  refine ev_gf (v := .ref (v0 + 2)) rfl (pl_at hv0) (by decide) rfl ?_
  refine ev_rn (n := 1) (i2 := 10) (L2 := [some (.ref v0), some (.int v1), some (.int v2), some (.int v3), none, some (.int v5)]) (st2 := [.int v1, .ref (v0 + 2), .int v3]) (g2 := g) cdE_236 rfl ?_
  by_cases hi2 : inb v1 4
  · rw [if_pos hi2] at h
    refine ev_iaload (v := .int (g.1 (v0 + 2) v1.toNatClampNeg)) rfl (kd_of (pl_2 hv0)) (by decide) hi2 rfl ?_
    refine ev_rn (n := 1) (i2 := 12) (L2 := [some (.ref v0), some (.int v1), some (.int v2), some (.int v3), none, some (.int v5)]) (st2 := [.ref v0, .int (g.1 (v0 + 2) v1.toNatClampNeg), .int v3]) (g2 := g) cdE_236 rfl ?_
    refine ev_gf (v := .ref (v0 + 1)) rfl (pl_at hv0) (by decide) rfl ?_
    refine ev_rn (n := 1) (i2 := 14) (L2 := [some (.ref v0), some (.int v1), some (.int v2), some (.int v3), none, some (.int v5)]) (st2 := [.int v2, .ref (v0 + 1), .int (g.1 (v0 + 2) v1.toNatClampNeg), .int v3]) (g2 := g) cdE_236 rfl ?_
    by_cases hi3 : inb v2 5
    · rw [if_pos hi3] at h
      refine ev_iaload (v := .int (g.1 (v0 + 1) v2.toNatClampNeg)) rfl (kd_of (pl_1 hv0)) (by decide) hi3 rfl ?_
      refine ev_rn (n := 4) (i2 := 19) (L2 := [some (.ref v0), some (.int v1), some (.int v2), some (.int v3), none, some (.int v5)]) (st2 := [.int ((v3 + ((g.1 (v0 + 2) v1.toNatClampNeg) * (g.1 (v0 + 1) v2.toNatClampNeg))) + v5)]) (g2 := g) cdE_236 rfl ?_
      cases h
      exact ev_ret rfl rfl
    · rw [if_neg hi3] at h
      cases h
  · rw [if_neg hi2] at h
    cases h
def f_Cu_rootOfStep (p0 : Nat) (p1 : Int32) (p2 : Int32) (p3 : Int32) (p4 : Int32) (g : M2) : Option (Int32) := (if 0 ≤ p4 then (j_Cu_rootOfStep_6 p0 p1 p2 p3 (0 : Int32) g) else (j_Cu_rootOfStep_6 p0 p1 p2 p3 (6 : Int32) g))
theorem e_Cu_rootOfStep {Lx : Nat} (p0 : Nat) (p1 : Int32) (p2 : Int32) (p3 : Int32) (p4 : Int32) (hp0 : IsPlan p0) (g : M2) {b : Int32} (h : f_Cu_rootOfStep p0 p1 p2 p3 p4 g = some b) : Ev Lx 236 cd_236 0 [some (.ref p0), some (.int p1), some (.int p2), some (.int p3), some (.int p4)] [] g (some (.int b), g) := by
  unfold f_Cu_rootOfStep at h
  refine ev_rn (n := 1) (i2 := 1) (L2 := [some (.ref p0), some (.int p1), some (.int p2), some (.int p3), some (.int p4)]) (st2 := [.int p4]) (g2 := g) cdE_236 rfl ?_
  by_cases hc1 : 0 ≤ p4
  · rw [if_pos hc1] at h
    refine ev_zft cdE_236 rfl (cn_t hc1) ?_
    refine ev_rn (n := 2) (i2 := 6) (L2 := [some (.ref p0), some (.int p1), some (.int p2), some (.int p3), some (.int p4), some (.int (0 : Int32))]) (st2 := []) (g2 := g) cdE_236 rfl ?_
    exact ev_wk (L := [some (.ref p0), some (.int p1), some (.int p2), some (.int p3), none, some (.int (0 : Int32))]) (tj_Cu_rootOfStep_6  p0 p1 p2 p3 (0 : Int32) hp0 g h) ⟨rfl, ⟨rfl, ⟨rfl, ⟨rfl, ⟨rfl, trivial⟩⟩⟩⟩⟩
  · rw [if_neg hc1] at h
    refine ev_zff rfl (cn_f hc1) ?_
    refine ev_rn (n := 3) (i2 := 6) (L2 := [some (.ref p0), some (.int p1), some (.int p2), some (.int p3), some (.int p4), some (.int (6 : Int32))]) (st2 := []) (g2 := g) cdE_236 rfl ?_
    exact ev_wk (L := [some (.ref p0), some (.int p1), some (.int p2), some (.int p3), none, some (.int (6 : Int32))]) (tj_Cu_rootOfStep_6  p0 p1 p2 p3 (6 : Int32) hp0 g h) ⟨rfl, ⟨rfl, ⟨rfl, ⟨rfl, ⟨rfl, trivial⟩⟩⟩⟩⟩
def b_Cu_tryStep_6 (v1 : Nat) (v2 : Int32) (v3 : Int32) (v4 : Int32) (v5 : Int64) (v7 : Int64) (v9 : Int32) (g : M2) : Option ((Int64 × Int64 × Int32 × M2) ⊕ (Int64 × Int64 × M2)) := (if (g.1 v1 5) ≤ v9 then some (.inr (v5, v7, g)) else (if inb v9 4 then ((f_Nu_copy 150 (145 + 1 + v9.toNatClampNeg) g).bind fun q3 => ((f_Cu_rootOfStep v1 v9 v2 v3 v4 q3).bind fun q4 => ((f_Nu_addRoot 150 q4 q3).bind fun q5 => some (.inl ((v5 + (f_Nu_powerX 150 q5)), (v7 + (f_Nu_powerY 150 q5)), (v9 + (1 : Int32)), q5))))) else none))
theorem tb_Cu_tryStep_6 {Lx : Nat} (v1 : Nat) (v2 : Int32) (v3 : Int32) (v4 : Int32) (hv1 : IsPlan v1) (v5 : Int64) (v7 : Int64) (v9 : Int32) (g : M2) {b : (Int64 × Int64 × Int32 × M2) ⊕ (Int64 × Int64 × M2)} {o : Option Value × M2} (h : b_Cu_tryStep_6 v1 v2 v3 v4 v5 v7 v9 g = some b) (hb : Sum.elim (fun s => Ev Lx 237 cd_237 6 [some (.ref 138), some (.ref v1), some (.int v2), some (.int v3), some (.int v4), some (.long s.1), none, some (.long s.2.1), none, some (.int s.2.2.1)] [] s.2.2.2 o) (fun e => Ev Lx 237 cd_237 40 [some (.ref 138), none, some (.int v2), some (.int v3), some (.int v4), some (.long e.1), none, some (.long e.2.1)] [] e.2.2 o) b) : Ev Lx 237 cd_237 6 [some (.ref 138), some (.ref v1), some (.int v2), some (.int v3), some (.int v4), some (.long v5), none, some (.long v7), none, some (.int v9)] [] g o := by
  unfold b_Cu_tryStep_6 at h
  refine ev_rn (n := 2) (i2 := 8) (L2 := [some (.ref 138), some (.ref v1), some (.int v2), some (.int v3), some (.int v4), some (.long v5), none, some (.long v7), none, some (.int v9)]) (st2 := [.ref v1, .int v9]) (g2 := g) cdE_237 rfl ?_
  refine ev_gf (v := .int (g.1 v1 5)) rfl (pl_at hv1) (by decide) rfl ?_
  by_cases hc1 : (g.1 v1 5) ≤ v9
  · rw [if_pos hc1] at h
    refine ev_ift cdE_237 rfl (cn_t hc1) ?_
    cases h
    exact ev_wk (L := [some (.ref 138), none, some (.int v2), some (.int v3), some (.int v4), some (.long v5), none, some (.long v7)]) hb ⟨rfl, ⟨rfl, ⟨rfl, ⟨rfl, ⟨rfl, ⟨rfl, trivial⟩⟩⟩⟩⟩⟩
  · rw [if_neg hc1] at h
    refine ev_iff rfl (cn_f hc1) ?_
    refine ev_rn (n := 5) (i2 := 15) (L2 := [some (.ref 138), some (.ref v1), some (.int v2), some (.int v3), some (.int v4), some (.long v5), none, some (.long v7), none, some (.int v9)]) (st2 := [.int v9, .ref 145, .ref 150]) (g2 := g) cdE_237 rfl ?_
    by_cases hi2 : inb v9 4
    · rw [if_pos hi2] at h
      refine ev_aaload (v := .ref (145 + 1 + v9.toNatClampNeg)) rfl (kd_of (na_at (na_145))) (by decide) hi2 (na_rf (w := 145) hi2.2) ?_
      obtain ⟨q3, hq3, h⟩ := Option.bind_eq_some_iff.mp h
      refine ev_call rfl cdE_91 rfl rfl rfl (e_Nu_copy 150 (145 + 1 + v9.toNatClampNeg) (num_lit 150 rfl) (na_el (na_145) hi2.2) g hq3) ?_
      refine ev_rn (n := 7) (i2 := 24) (L2 := [some (.ref 138), some (.ref v1), some (.int v2), some (.int v3), some (.int v4), some (.long v5), none, some (.long v7), none, some (.int v9)]) (st2 := [.int v4, .int v3, .int v2, .int v9, .ref v1, .ref 150]) (g2 := q3) cdE_237 rfl ?_
      obtain ⟨q4, hq4, h⟩ := Option.bind_eq_some_iff.mp h
      refine ev_call rfl cdE_236 rfl rfl rfl (e_Cu_rootOfStep v1 v9 v2 v3 v4 hv1 q3 hq4) ?_
      obtain ⟨q5, hq5, h⟩ := Option.bind_eq_some_iff.mp h
      refine ev_call rfl cdE_77 rfl rfl rfl (e_Nu_addRoot 150 q4 (num_lit 150 rfl) q3 hq5) ?_
      refine ev_rn (n := 3) (i2 := 29) (L2 := [some (.ref 138), some (.ref v1), some (.int v2), some (.int v3), some (.int v4), some (.long v5), none, some (.long v7), none, some (.int v9)]) (st2 := [.ref 150, .long v5]) (g2 := q5) cdE_237 rfl ?_
      refine ev_call rfl cdE_97 rfl rfl rfl (e_Nu_powerX 150 (num_lit 150 rfl) q5 rfl) ?_
      refine ev_rn (n := 2) (i2 := 32) (L2 := [some (.ref 138), some (.ref v1), some (.int v2), some (.int v3), some (.int v4), some (.long (v5 + (f_Nu_powerX 150 q5))), none, some (.long v7), none, some (.int v9)]) (st2 := []) (g2 := q5) cdE_237 rfl ?_
      refine ev_rn (n := 3) (i2 := 35) (L2 := [some (.ref 138), some (.ref v1), some (.int v2), some (.int v3), some (.int v4), some (.long (v5 + (f_Nu_powerX 150 q5))), none, some (.long v7), none, some (.int v9)]) (st2 := [.ref 150, .long v7]) (g2 := q5) cdE_237 rfl ?_
      refine ev_call rfl cdE_98 rfl rfl rfl (e_Nu_powerY 150 (num_lit 150 rfl) q5 rfl) ?_
      refine ev_rn (n := 2) (i2 := 38) (L2 := [some (.ref 138), some (.ref v1), some (.int v2), some (.int v3), some (.int v4), some (.long (v5 + (f_Nu_powerX 150 q5))), none, some (.long (v7 + (f_Nu_powerY 150 q5))), none, some (.int v9)]) (st2 := []) (g2 := q5) cdE_237 rfl ?_
      refine ev_rn (n := 2) (i2 := 6) (L2 := [some (.ref 138), some (.ref v1), some (.int v2), some (.int v3), some (.int v4), some (.long (v5 + (f_Nu_powerX 150 q5))), none, some (.long (v7 + (f_Nu_powerY 150 q5))), none, some (.int (v9 + (1 : Int32)))]) (st2 := []) (g2 := q5) cdE_237 rfl ?_
      cases h
      exact ev_wk (L := [some (.ref 138), some (.ref v1), some (.int v2), some (.int v3), some (.int v4), some (.long (v5 + (f_Nu_powerX 150 q5))), none, some (.long (v7 + (f_Nu_powerY 150 q5))), none, some (.int (v9 + (1 : Int32)))]) hb ⟨rfl, ⟨rfl, ⟨rfl, ⟨rfl, ⟨rfl, ⟨rfl, ⟨rfl, ⟨rfl, trivial⟩⟩⟩⟩⟩⟩⟩⟩
    · rw [if_neg hi2] at h
      cases h
def f_Cu_tryStep (p0 : Nat) (p1 : Int32) (p2 : Int32) (p3 : Int32) (g : M2) : Option (M2) := ((lp (fun s => b_Cu_tryStep_6 p0 p1 p2 p3 s.1 s.2.1 s.2.2.1 s.2.2.2) 5000 ((0 : Int64), (0 : Int64), (0 : Int32), g)).bind fun e6 => ((f_Da_signOf (e6.1 - (e6.2.2.2 138 8)) (e6.2.1 - (e6.2.2.2 138 9)) e6.2.2).bind fun q7 => (if 0 ≤ q7 then some e6.2.2 else (bd (uI e6.2.2 138 5 p1) fun g9 => (bd (uI g9 138 6 p2) fun g10 => (bd (uI g10 138 7 p3) fun g11 => (bd (uJ g11 138 8 e6.1) fun g12 => (bd (uJ g12 138 9 e6.2.1) fun g13 => some g13))))))))
theorem e_Cu_tryStep {Lx : Nat} (p0 : Nat) (p1 : Int32) (p2 : Int32) (p3 : Int32) (hp0 : IsPlan p0) (g : M2) {b : M2} (h : f_Cu_tryStep p0 p1 p2 p3 g = some b) : Ev Lx 237 cd_237 0 [some (.ref 138), some (.ref p0), some (.int p1), some (.int p2), some (.int p3)] [] g (none, b) := by
  unfold f_Cu_tryStep at h
  refine ev_rn (n := 2) (i2 := 2) (L2 := [some (.ref 138), some (.ref p0), some (.int p1), some (.int p2), some (.int p3), some (.long (0 : Int64)), none]) (st2 := []) (g2 := g) cdE_237 rfl ?_
  refine ev_rn (n := 2) (i2 := 4) (L2 := [some (.ref 138), some (.ref p0), some (.int p1), some (.int p2), some (.int p3), some (.long (0 : Int64)), none, some (.long (0 : Int64)), none]) (st2 := []) (g2 := g) cdE_237 rfl ?_
  refine ev_rn (n := 2) (i2 := 6) (L2 := [some (.ref 138), some (.ref p0), some (.int p1), some (.int p2), some (.int p3), some (.long (0 : Int64)), none, some (.long (0 : Int64)), none, some (.int (0 : Int32))]) (st2 := []) (g2 := g) cdE_237 rfl ?_
  obtain ⟨e6, he6, h⟩ := Option.bind_eq_some_iff.mp h
  have hX14 : Ev Lx 237 cd_237 40 [some (.ref 138), none, some (.int p1), some (.int p2), some (.int p3), some (.long e6.1), none, some (.long e6.2.1)] [] e6.2.2 (none, b) := by
    refine ev_rn (n := 8) (i2 := 48) (L2 := [some (.ref 138), none, some (.int p1), some (.int p2), some (.int p3), some (.long e6.1), none, some (.long e6.2.1)]) (st2 := [.long (e6.2.1 - (e6.2.2.2 138 9)), .long (e6.1 - (e6.2.2.2 138 8))]) (g2 := e6.2.2) cdE_237 rfl ?_
    obtain ⟨q7, hq7, h⟩ := Option.bind_eq_some_iff.mp h
    refine ev_call rfl cdE_144 rfl rfl rfl (e_Da_signOf (e6.1 - (e6.2.2.2 138 8)) (e6.2.1 - (e6.2.2.2 138 9))  e6.2.2 hq7) ?_
    by_cases hc8 : 0 ≤ q7
    · rw [if_pos hc8] at h
      refine ev_zft cdE_237 rfl (cn_t hc8) ?_
      cases h
      exact ev_ret rfl rfl
    · rw [if_neg hc8] at h
      refine ev_zff rfl (cn_f hc8) ?_
      refine ev_rn (n := 2) (i2 := 52) (L2 := [some (.ref 138), none, some (.int p1), some (.int p2), some (.int p3), some (.long e6.1), none, some (.long e6.2.1)]) (st2 := [.int p1, .ref 138]) (g2 := e6.2.2) cdE_237 rfl ?_
      refine bd_elim h (fun g9 hg9 h => ?_)
      refine ev_pf (g2 := g9) rfl (rfl : S0[138]? = some _) (by decide) (by rw [hg9] <;> rfl) ?_
      refine ev_rn (n := 2) (i2 := 55) (L2 := [some (.ref 138), none, some (.int p1), some (.int p2), some (.int p3), some (.long e6.1), none, some (.long e6.2.1)]) (st2 := [.int p2, .ref 138]) (g2 := g9) cdE_237 rfl ?_
      refine bd_elim h (fun g10 hg10 h => ?_)
      refine ev_pf (g2 := g10) rfl (rfl : S0[138]? = some _) (by decide) (by rw [hg10] <;> rfl) ?_
      refine ev_rn (n := 2) (i2 := 58) (L2 := [some (.ref 138), none, some (.int p1), some (.int p2), some (.int p3), some (.long e6.1), none, some (.long e6.2.1)]) (st2 := [.int p3, .ref 138]) (g2 := g10) cdE_237 rfl ?_
      refine bd_elim h (fun g11 hg11 h => ?_)
      refine ev_pf (g2 := g11) rfl (rfl : S0[138]? = some _) (by decide) (by rw [hg11] <;> rfl) ?_
      refine ev_rn (n := 2) (i2 := 61) (L2 := [some (.ref 138), none, some (.int p1), some (.int p2), some (.int p3), some (.long e6.1), none, some (.long e6.2.1)]) (st2 := [.long e6.1, .ref 138]) (g2 := g11) cdE_237 rfl ?_
      refine bd_elim h (fun g12 hg12 h => ?_)
      refine ev_pf (g2 := g12) rfl (rfl : S0[138]? = some _) (by decide) (by rw [hg12] <;> rfl) ?_
      refine ev_rn (n := 2) (i2 := 64) (L2 := [some (.ref 138), none, some (.int p1), some (.int p2), some (.int p3), some (.long e6.1), none, some (.long e6.2.1)]) (st2 := [.long e6.2.1, .ref 138]) (g2 := g12) cdE_237 rfl ?_
      refine bd_elim h (fun g13 hg13 h => ?_)
      refine ev_pf (g2 := g13) rfl (rfl : S0[138]? = some _) (by decide) (by rw [hg13] <;> rfl) ?_
      cases h
      exact ev_ret rfl rfl
  exact ev_wk (L := [some (.ref 138), some (.ref p0), some (.int p1), some (.int p2), some (.int p3), some (.long (0 : Int64)), none, some (.long (0 : Int64)), none, some (.int (0 : Int32))]) (lp_ind (P := (fun (s : (Int64 × Int64 × Int32 × M2)) => Ev Lx 237 cd_237 6 [some (.ref 138), some (.ref p0), some (.int p1), some (.int p2), some (.int p3), some (.long s.1), none, some (.long s.2.1), none, some (.int s.2.2.1)] [] s.2.2.2 (none, b))) (fun s s2 hs hP => tb_Cu_tryStep_6 p0 p1 p2 p3 hp0 s.1 s.2.1 s.2.2.1 s.2.2.2 (b := .inl s2) hs hP) (fun s hs => tb_Cu_tryStep_6 p0 p1 p2 p3 hp0 s.1 s.2.1 s.2.2.1 s.2.2.2 (b := .inr e6) hs hX14) _ _ he6) ⟨rfl, ⟨rfl, ⟨rfl, ⟨rfl, ⟨rfl, ⟨rfl, ⟨rfl, ⟨rfl, trivial⟩⟩⟩⟩⟩⟩⟩⟩
def b_Cu_seekStep_23 (v1 : Nat) (v2 : Int32) (v3 : Int32) (g : M2) : Option ((Int32 × M2) ⊕ M2) := (if (4 : Int32) ≤ v3 then some (.inr g) else ((f_Cu_tryStep v1 v2 v3 (1 : Int32) g).bind fun q7 => ((f_Cu_tryStep v1 v2 v3 (-1 : Int32) q7).bind fun q8 => some (.inl ((v3 + (1 : Int32)), q8)))))
theorem tb_Cu_seekStep_23 {Lx : Nat} (v1 : Nat) (v2 : Int32) (hv1 : IsPlan v1) (v3 : Int32) (g : M2) {b : (Int32 × M2) ⊕ M2} {o : Option Value × M2} (h : b_Cu_seekStep_23 v1 v2 v3 g = some b) (hb : Sum.elim (fun s => Ev Lx 238 cd_238 23 [some (.ref 138), some (.ref v1), some (.int v2), some (.int s.1)] [] s.2 o) (fun e => Ev Lx 238 cd_238 40 [some (.ref 138), some (.ref v1), some (.int v2)] [] e o) b) : Ev Lx 238 cd_238 23 [some (.ref 138), some (.ref v1), some (.int v2), some (.int v3)] [] g o := by
  unfold b_Cu_seekStep_23 at h
  refine ev_rn (n := 2) (i2 := 25) (L2 := [some (.ref 138), some (.ref v1), some (.int v2), some (.int v3)]) (st2 := [.int (4 : Int32), .int v3]) (g2 := g) cdE_238 rfl ?_
  by_cases hc6 : (4 : Int32) ≤ v3
  · rw [if_pos hc6] at h
    refine ev_ift cdE_238 rfl (cn_t hc6) ?_
    cases h
    exact ev_wk (L := [some (.ref 138), some (.ref v1), some (.int v2)]) hb ⟨rfl, ⟨rfl, ⟨rfl, trivial⟩⟩⟩
  · rw [if_neg hc6] at h
    refine ev_iff rfl (cn_f hc6) ?_
    refine ev_rn (n := 5) (i2 := 31) (L2 := [some (.ref 138), some (.ref v1), some (.int v2), some (.int v3)]) (st2 := [.int (1 : Int32), .int v3, .int v2, .ref v1, .ref 138]) (g2 := g) cdE_238 rfl ?_
    obtain ⟨q7, hq7, h⟩ := Option.bind_eq_some_iff.mp h
    refine ev_call rfl cdE_237 rfl rfl rfl (e_Cu_tryStep v1 v2 v3 (1 : Int32) hv1 g hq7) ?_
    refine ev_rn (n := 5) (i2 := 37) (L2 := [some (.ref 138), some (.ref v1), some (.int v2), some (.int v3)]) (st2 := [.int (-1 : Int32), .int v3, .int v2, .ref v1, .ref 138]) (g2 := q7) cdE_238 rfl ?_
    obtain ⟨q8, hq8, h⟩ := Option.bind_eq_some_iff.mp h
    refine ev_call rfl cdE_237 rfl rfl rfl (e_Cu_tryStep v1 v2 v3 (-1 : Int32) hv1 q7 hq8) ?_
    refine ev_rn (n := 2) (i2 := 23) (L2 := [some (.ref 138), some (.ref v1), some (.int v2), some (.int (v3 + (1 : Int32)))]) (st2 := []) (g2 := q8) cdE_238 rfl ?_
    cases h
    exact ev_wk (L := [some (.ref 138), some (.ref v1), some (.int v2), some (.int (v3 + (1 : Int32)))]) hb ⟨rfl, ⟨rfl, ⟨rfl, ⟨rfl, trivial⟩⟩⟩⟩
def b_Cu_seekStep_13 (v1 : Nat) (v2 : Int32) (g : M2) : Option ((Int32 × M2) ⊕ M2) := (if (g.1 v1 2) ≤ v2 then some (.inr g) else (if (f_Pl_works v1 v2 g) = 0 then some (.inl ((v2 + (1 : Int32)), g)) else ((lp (fun s => b_Cu_seekStep_23 v1 v2 s.1 s.2) 5000 ((0 : Int32), g)).bind fun e9 => some (.inl ((v2 + (1 : Int32)), e9)))))
theorem tb_Cu_seekStep_13 {Lx : Nat} (v1 : Nat) (hv1 : IsPlan v1) (v2 : Int32) (g : M2) {b : (Int32 × M2) ⊕ M2} {o : Option Value × M2} (h : b_Cu_seekStep_13 v1 v2 g = some b) (hb : Sum.elim (fun s => Ev Lx 238 cd_238 13 [some (.ref 138), some (.ref v1), some (.int s.1)] [] s.2 o) (fun e => Ev Lx 238 cd_238 42 [some (.ref 138)] [] e o) b) : Ev Lx 238 cd_238 13 [some (.ref 138), some (.ref v1), some (.int v2)] [] g o := by
  unfold b_Cu_seekStep_13 at h
  refine ev_rn (n := 2) (i2 := 15) (L2 := [some (.ref 138), some (.ref v1), some (.int v2)]) (st2 := [.ref v1, .int v2]) (g2 := g) cdE_238 rfl ?_
  refine ev_gf (v := .int (g.1 v1 2)) rfl (pl_at hv1) (by decide) rfl ?_
  by_cases hc4 : (g.1 v1 2) ≤ v2
  · rw [if_pos hc4] at h
    refine ev_ift cdE_238 rfl (cn_t hc4) ?_
    cases h
    exact ev_wk (L := [some (.ref 138)]) hb ⟨rfl, trivial⟩
  · rw [if_neg hc4] at h
    refine ev_iff rfl (cn_f hc4) ?_
    refine ev_rn (n := 2) (i2 := 19) (L2 := [some (.ref 138), some (.ref v1), some (.int v2)]) (st2 := [.int v2, .ref v1]) (g2 := g) cdE_238 rfl ?_
    refine ev_call rfl cdE_67 (cokV rfl rfl (pl_at hv1) rfl) rfl rfl (e_Pl_works v1 v2 hv1 g rfl) ?_
    by_cases hc5 : (f_Pl_works v1 v2 g) = 0
    · rw [if_pos hc5] at h
      refine ev_zft cdE_238 rfl (cn_t hc5) ?_
      refine ev_rn (n := 2) (i2 := 13) (L2 := [some (.ref 138), some (.ref v1), some (.int (v2 + (1 : Int32)))]) (st2 := []) (g2 := g) cdE_238 rfl ?_
      cases h
      exact ev_wk (L := [some (.ref 138), some (.ref v1), some (.int (v2 + (1 : Int32)))]) hb ⟨rfl, ⟨rfl, ⟨rfl, trivial⟩⟩⟩
    · rw [if_neg hc5] at h
      refine ev_zff rfl (cn_f hc5) ?_
      refine ev_rn (n := 2) (i2 := 23) (L2 := [some (.ref 138), some (.ref v1), some (.int v2), some (.int (0 : Int32))]) (st2 := []) (g2 := g) cdE_238 rfl ?_
      obtain ⟨e9, he9, h⟩ := Option.bind_eq_some_iff.mp h
      have hX10 : Ev Lx 238 cd_238 40 [some (.ref 138), some (.ref v1), some (.int v2)] [] e9 o := by
        refine ev_rn (n := 2) (i2 := 13) (L2 := [some (.ref 138), some (.ref v1), some (.int (v2 + (1 : Int32)))]) (st2 := []) (g2 := e9) cdE_238 rfl ?_
        cases h
        exact ev_wk (L := [some (.ref 138), some (.ref v1), some (.int (v2 + (1 : Int32)))]) hb ⟨rfl, ⟨rfl, ⟨rfl, trivial⟩⟩⟩
      exact ev_wk (L := [some (.ref 138), some (.ref v1), some (.int v2), some (.int (0 : Int32))]) (lp_ind (P := (fun (s : (Int32 × M2)) => Ev Lx 238 cd_238 23 [some (.ref 138), some (.ref v1), some (.int v2), some (.int s.1)] [] s.2 o)) (fun s s2 hs hP => tb_Cu_seekStep_23 v1 v2 hv1 s.1 s.2 (b := .inl s2) hs hP) (fun s hs => tb_Cu_seekStep_23 v1 v2 hv1 s.1 s.2 (b := .inr e9) hs hX10) _ _ he9) ⟨rfl, ⟨rfl, ⟨rfl, ⟨rfl, trivial⟩⟩⟩⟩
def f_Cu_seekStep (p0 : Nat) (g : M2) : Option (Int32 × M2) := (bd (uI g 138 5 (-1 : Int32)) fun g1 => (bd (uJ g1 138 8 (g1.2 138 3)) fun g2 => (bd (uJ g2 138 9 (g2.2 138 4)) fun g3 => ((lp (fun s => b_Cu_seekStep_13 p0 s.1 s.2) 5000 ((0 : Int32), g3)).bind fun e11 => (if (e11.1 138 5) = (-1 : Int32) then some ((0 : Int32), e11) else some ((1 : Int32), e11))))))
theorem e_Cu_seekStep {Lx : Nat} (p0 : Nat) (hp0 : IsPlan p0) (g : M2) {b : (Int32 × M2)} (h : f_Cu_seekStep p0 g = some b) : Ev Lx 238 cd_238 0 [some (.ref 138), some (.ref p0)] [] g (some (.int b.1), b.2) := by
  unfold f_Cu_seekStep at h
  refine ev_rn (n := 2) (i2 := 2) (L2 := [some (.ref 138), some (.ref p0)]) (st2 := [.int (-1 : Int32), .ref 138]) (g2 := g) cdE_238 rfl ?_
  refine bd_elim h (fun g1 hg1 h => ?_)
  refine ev_pf (g2 := g1) rfl (rfl : S0[138]? = some _) (by decide) (by rw [hg1] <;> rfl) ?_
  refine ev_rn (n := 3) (i2 := 6) (L2 := [some (.ref 138), some (.ref p0)]) (st2 := [.long (g1.2 138 3), .ref 138]) (g2 := g1) cdE_238 rfl ?_
  refine bd_elim h (fun g2 hg2 h => ?_)
  refine ev_pf (g2 := g2) rfl (rfl : S0[138]? = some _) (by decide) (by rw [hg2] <;> rfl) ?_
  refine ev_rn (n := 3) (i2 := 10) (L2 := [some (.ref 138), some (.ref p0)]) (st2 := [.long (g2.2 138 4), .ref 138]) (g2 := g2) cdE_238 rfl ?_
  refine bd_elim h (fun g3 hg3 h => ?_)
  refine ev_pf (g2 := g3) rfl (rfl : S0[138]? = some _) (by decide) (by rw [hg3] <;> rfl) ?_
  refine ev_rn (n := 2) (i2 := 13) (L2 := [some (.ref 138), some (.ref p0), some (.int (0 : Int32))]) (st2 := []) (g2 := g3) cdE_238 rfl ?_
  obtain ⟨e11, he11, h⟩ := Option.bind_eq_some_iff.mp h
  have hX13 : Ev Lx 238 cd_238 42 [some (.ref 138)] [] e11 (some (.int b.1), b.2) := by
    refine ev_rn (n := 3) (i2 := 45) (L2 := [some (.ref 138)]) (st2 := [.int (-1 : Int32), .int (e11.1 138 5)]) (g2 := e11) cdE_238 rfl ?_
    by_cases hc12 : (e11.1 138 5) = (-1 : Int32)
    · rw [if_pos hc12] at h
      refine ev_ift cdE_238 rfl (cn_t hc12) ?_
      refine ev_rn (n := 1) (i2 := 49) (L2 := [some (.ref 138)]) (st2 := [.int (0 : Int32)]) (g2 := e11) cdE_238 rfl ?_
      cases h
      exact ev_ret rfl rt_0
    · rw [if_neg hc12] at h
      refine ev_iff rfl (cn_f hc12) ?_
      refine ev_rn (n := 2) (i2 := 49) (L2 := [some (.ref 138)]) (st2 := [.int (1 : Int32)]) (g2 := e11) cdE_238 rfl ?_
      cases h
      exact ev_ret rfl rt_1
  exact ev_wk (L := [some (.ref 138), some (.ref p0), some (.int (0 : Int32))]) (lp_ind (P := (fun (s : (Int32 × M2)) => Ev Lx 238 cd_238 13 [some (.ref 138), some (.ref p0), some (.int s.1)] [] s.2 (some (.int b.1), b.2))) (fun s s2 hs hP => tb_Cu_seekStep_13 p0 hp0 s.1 s.2 (b := .inl s2) hs hP) (fun s hs => tb_Cu_seekStep_13 p0 hp0 s.1 s.2 (b := .inr e11) hs hX13) _ _ he11) ⟨rfl, ⟨rfl, ⟨rfl, trivial⟩⟩⟩
def f_Da_step (p0 : Int32) (g : M2) : Option (Int32 × M2) := ((f_Da_refresh g).bind fun q1 => (if (q1.1 6 13) = 0 then some ((-2 : Int32), q1) else (if (f_Da_isAmong p0 (3 : Int32) q1) = 0 then some ((-2 : Int32), q1) else ((f_Cu_roundAll 6 (q1.1 7 6) q1).bind fun q4 => ((f_Cu_hearDeaf 6 q4).bind fun q5 => ((f_Cu_seekStep 7 q5).bind fun q6 => (if q6.1 = 0 then some ((-1 : Int32), q6.2) else (if p0 = 0 then some ((q6.2.1 138 5), q6.2) else (if p0 = (1 : Int32) then some ((q6.2.1 138 6), q6.2) else some ((q6.2.1 138 7), q6.2))))))))))
theorem e_Da_step {Lx : Nat} (p0 : Int32)  (g : M2) {b : (Int32 × M2)} (h : f_Da_step p0 g = some b) : Ev Lx 239 cd_239 0 [some (.ref 0), some (.int p0)] [] g (some (.int b.1), b.2) := by
  unfold f_Da_step at h
  refine ev_rn (n := 1) (i2 := 1) (L2 := [some (.ref 0), some (.int p0)]) (st2 := [.ref 0]) (g2 := g) cdE_239 rfl ?_
  obtain ⟨q1, hq1, h⟩ := Option.bind_eq_some_iff.mp h
  refine ev_call rfl cdE_100 rfl rfl rfl (e_Da_refresh   g hq1) ?_
  refine ev_rn (n := 3) (i2 := 5) (L2 := [some (.ref 0), some (.int p0)]) (st2 := [.int (q1.1 6 13)]) (g2 := q1) cdE_239 rfl ?_
  by_cases hc2 : (q1.1 6 13) = 0
  · rw [if_pos hc2] at h
    refine ev_zft cdE_239 rfl (cn_t hc2) ?_
    refine ev_rn (n := 1) (i2 := 11) (L2 := [some (.ref 0), some (.int p0)]) (st2 := [.int (-2 : Int32)]) (g2 := q1) cdE_239 rfl ?_
    cases h
    exact ev_ret rfl rfl
  · rw [if_neg hc2] at h
    refine ev_zff rfl (cn_f hc2) ?_
    refine ev_rn (n := 2) (i2 := 8) (L2 := [some (.ref 0), some (.int p0)]) (st2 := [.int (3 : Int32), .int p0]) (g2 := q1) cdE_239 rfl ?_
    refine ev_call rfl cdE_65 rfl rfl rfl (e_Da_isAmong p0 (3 : Int32)  q1 rfl) ?_
    by_cases hc3 : (f_Da_isAmong p0 (3 : Int32) q1) = 0
    · rw [if_pos hc3] at h
      refine ev_zff rfl (cn_f (fun q => q hc3)) ?_
      refine ev_rn (n := 1) (i2 := 11) (L2 := [some (.ref 0), some (.int p0)]) (st2 := [.int (-2 : Int32)]) (g2 := q1) cdE_239 rfl ?_
      cases h
      exact ev_ret rfl rfl
    · rw [if_neg hc3] at h
      refine ev_zft cdE_239 rfl (cn_t hc3) ?_
      refine ev_rn (n := 8) (i2 := 20) (L2 := [some (.ref 0), some (.int p0)]) (st2 := [.int (q1.1 7 6), .ref 6, .ref 138]) (g2 := q1) cdE_239 rfl ?_
      obtain ⟨q4, hq4, h⟩ := Option.bind_eq_some_iff.mp h
      refine ev_call rfl cdE_212 rfl rfl rfl (e_Cu_roundAll 6 (q1.1 7 6) (by decide) q1 hq4) ?_
      refine ev_rn (n := 4) (i2 := 25) (L2 := [some (.ref 0), some (.int p0)]) (st2 := [.ref 6, .ref 138]) (g2 := q4) cdE_239 rfl ?_
      obtain ⟨q5, hq5, h⟩ := Option.bind_eq_some_iff.mp h
      refine ev_call rfl cdE_235 rfl rfl rfl (e_Cu_hearDeaf 6 (by decide) q4 hq5) ?_
      refine ev_rn (n := 5) (i2 := 31) (L2 := [some (.ref 0), some (.int p0)]) (st2 := [.ref 7, .ref 138]) (g2 := q5) cdE_239 rfl ?_
      obtain ⟨q6, hq6, h⟩ := Option.bind_eq_some_iff.mp h
      refine ev_call rfl cdE_238 rfl rfl rfl (e_Cu_seekStep 7 (by decide) q5 hq6) ?_
      by_cases hc7 : q6.1 = 0
      · rw [if_pos hc7] at h
        refine ev_zff rfl (cn_f (fun q => q hc7)) ?_
        refine ev_rn (n := 1) (i2 := 34) (L2 := [some (.ref 0), some (.int p0)]) (st2 := [.int (-1 : Int32)]) (g2 := q6.2) cdE_239 rfl ?_
        cases h
        exact ev_ret rfl rfl
      · rw [if_neg hc7] at h
        refine ev_zft cdE_239 rfl (cn_t hc7) ?_
        refine ev_rn (n := 1) (i2 := 36) (L2 := [some (.ref 0), some (.int p0)]) (st2 := [.int p0]) (g2 := q6.2) cdE_239 rfl ?_
        by_cases hc8 : p0 = 0
        · rw [if_pos hc8] at h
          refine ev_zff rfl (cn_f (fun q => q hc8)) ?_
          refine ev_rn (n := 3) (i2 := 40) (L2 := [some (.ref 0), some (.int p0)]) (st2 := [.int (q6.2.1 138 5)]) (g2 := q6.2) cdE_239 rfl ?_
          cases h
          exact ev_ret rfl rfl
        · rw [if_neg hc8] at h
          refine ev_zft cdE_239 rfl (cn_t hc8) ?_
          refine ev_rn (n := 2) (i2 := 43) (L2 := [some (.ref 0), some (.int p0)]) (st2 := [.int (1 : Int32), .int p0]) (g2 := q6.2) cdE_239 rfl ?_
          by_cases hc9 : p0 = (1 : Int32)
          · rw [if_pos hc9] at h
            refine ev_iff rfl (cn_f (fun q => q hc9)) ?_
            refine ev_rn (n := 4) (i2 := 51) (L2 := [some (.ref 0), some (.int p0)]) (st2 := [.int (q6.2.1 138 6)]) (g2 := q6.2) cdE_239 rfl ?_
            cases h
            exact ev_ret rfl rfl
          · rw [if_neg hc9] at h
            refine ev_ift cdE_239 rfl (cn_t hc9) ?_
            refine ev_rn (n := 3) (i2 := 51) (L2 := [some (.ref 0), some (.int p0)]) (st2 := [.int (q6.2.1 138 7)]) (g2 := q6.2) cdE_239 rfl ?_
            cases h
            exact ev_ret rfl rfl
def b_Mo_laysDeafPowers_8  (v1 : Int32) (g : M2) : Option ((Int32 × M2) ⊕ M2) := (if (g.1 160 13) ≤ v1 then some (.inr g) else (if inb ((14 : Int32) + v1) 19 then ((f_Mo_laysCutGain (g.1 160 ((14 : Int32) + v1).toNatClampNeg) g).bind fun q5 => ((f_Mo_laysPower (87 : Int32) q5).bind fun q6 => (bd (uJ q6 157 32 ((q6.2 157 32) + (q6.2 157 3))) fun g7 => (bd (uJ g7 157 33 ((g7.2 157 33) + (g7.2 157 4))) fun g8 => some (.inl ((v1 + (1 : Int32)), g8)))))) else none))
theorem tb_Mo_laysDeafPowers_8 {Lx : Nat}   (v1 : Int32) (g : M2) {b : (Int32 × M2) ⊕ M2} {o : Option Value × M2} (h : b_Mo_laysDeafPowers_8 v1 g = some b) (hb : Sum.elim (fun s => Ev Lx 240 cd_240 8 [some (.ref 157), some (.int s.1)] [] s.2 o) (fun e => Ev Lx 240 cd_240 41 [] [] e o) b) : Ev Lx 240 cd_240 8 [some (.ref 157), some (.int v1)] [] g o := by
  unfold b_Mo_laysDeafPowers_8 at h
  refine ev_rn (n := 4) (i2 := 12) (L2 := [some (.ref 157), some (.int v1)]) (st2 := [.int (13 : Int32), .ref 160, .int v1]) (g2 := g) cdE_240 rfl ?_
  refine ev_iaload (v := .int (g.1 160 13)) rfl (kd_of (show S0[160]? = some (100, 19, List.replicate 19 none) from rfl)) (by decide) ⟨by decide, by decide⟩ rfl ?_
  by_cases hc3 : (g.1 160 13) ≤ v1
  · rw [if_pos hc3] at h
    refine ev_ift cdE_240 rfl (cn_t hc3) ?_
    cases h
    exact ev_wk (L := []) hb trivial
  · rw [if_neg hc3] at h
    refine ev_iff rfl (cn_f hc3) ?_
    refine ev_rn (n := 6) (i2 := 20) (L2 := [some (.ref 157), some (.int v1)]) (st2 := [.int ((14 : Int32) + v1), .ref 160, .ref 157]) (g2 := g) cdE_240 rfl ?_
    by_cases hi4 : inb ((14 : Int32) + v1) 19
    · rw [if_pos hi4] at h
      refine ev_iaload (v := .int (g.1 160 ((14 : Int32) + v1).toNatClampNeg)) rfl (kd_of (show S0[160]? = some (100, 19, List.replicate 19 none) from rfl)) (by decide) hi4 rfl ?_
      obtain ⟨q5, hq5, h⟩ := Option.bind_eq_some_iff.mp h
      refine ev_call rfl cdE_218 rfl rfl rfl (e_Mo_laysCutGain (g.1 160 ((14 : Int32) + v1).toNatClampNeg)  g hq5) ?_
      refine ev_rn (n := 2) (i2 := 24) (L2 := [some (.ref 157), some (.int v1)]) (st2 := [.int (87 : Int32), .ref 157]) (g2 := q5) cdE_240 rfl ?_
      obtain ⟨q6, hq6, h⟩ := Option.bind_eq_some_iff.mp h
      refine ev_call rfl cdE_137 rfl rfl rfl (e_Mo_laysPower (87 : Int32)  q5 hq6) ?_
      refine ev_rn (n := 6) (i2 := 31) (L2 := [some (.ref 157), some (.int v1)]) (st2 := [.long ((q6.2 157 32) + (q6.2 157 3)), .ref 157]) (g2 := q6) cdE_240 rfl ?_
      refine bd_elim h (fun g7 hg7 h => ?_)
      refine ev_pf (g2 := g7) rfl (rfl : S0[157]? = some _) (by decide) (by rw [hg7] <;> rfl) ?_
      refine ev_rn (n := 6) (i2 := 38) (L2 := [some (.ref 157), some (.int v1)]) (st2 := [.long ((g7.2 157 33) + (g7.2 157 4)), .ref 157]) (g2 := g7) cdE_240 rfl ?_
      refine bd_elim h (fun g8 hg8 h => ?_)
      refine ev_pf (g2 := g8) rfl (rfl : S0[157]? = some _) (by decide) (by rw [hg8] <;> rfl) ?_
      refine ev_rn (n := 2) (i2 := 8) (L2 := [some (.ref 157), some (.int (v1 + (1 : Int32)))]) (st2 := []) (g2 := g8) cdE_240 rfl ?_
      cases h
      exact ev_wk (L := [some (.ref 157), some (.int (v1 + (1 : Int32)))]) hb ⟨rfl, ⟨rfl, trivial⟩⟩
    · rw [if_neg hi4] at h
      cases h
def f_Mo_laysDeafPowers  (g : M2) : Option (M2) := (bd (uJ g 157 32 (0 : Int64)) fun g1 => (bd (uJ g1 157 33 (0 : Int64)) fun g2 => ((lp (fun s => b_Mo_laysDeafPowers_8  s.1 s.2) 5000 ((0 : Int32), g2)).bind fun e9 => some e9)))
theorem e_Mo_laysDeafPowers {Lx : Nat}   (g : M2) {b : M2} (h : f_Mo_laysDeafPowers  g = some b) : Ev Lx 240 cd_240 0 [some (.ref 157)] [] g (none, b) := by
  unfold f_Mo_laysDeafPowers at h
  refine ev_rn (n := 2) (i2 := 2) (L2 := [some (.ref 157)]) (st2 := [.long (0 : Int64), .ref 157]) (g2 := g) cdE_240 rfl ?_
  refine bd_elim h (fun g1 hg1 h => ?_)
  refine ev_pf (g2 := g1) rfl (rfl : S0[157]? = some _) (by decide) (by rw [hg1] <;> rfl) ?_
  refine ev_rn (n := 2) (i2 := 5) (L2 := [some (.ref 157)]) (st2 := [.long (0 : Int64), .ref 157]) (g2 := g1) cdE_240 rfl ?_
  refine bd_elim h (fun g2 hg2 h => ?_)
  refine ev_pf (g2 := g2) rfl (rfl : S0[157]? = some _) (by decide) (by rw [hg2] <;> rfl) ?_
  refine ev_rn (n := 2) (i2 := 8) (L2 := [some (.ref 157), some (.int (0 : Int32))]) (st2 := []) (g2 := g2) cdE_240 rfl ?_
  obtain ⟨e9, he9, h⟩ := Option.bind_eq_some_iff.mp h
  have hX10 : Ev Lx 240 cd_240 41 [] [] e9 (none, b) := by
    cases h
    exact ev_ret rfl rfl
  exact ev_wk (L := [some (.ref 157), some (.int (0 : Int32))]) (lp_ind (P := (fun (s : (Int32 × M2)) => Ev Lx 240 cd_240 8 [some (.ref 157), some (.int s.1)] [] s.2 (none, b))) (fun s s2 hs hP => tb_Mo_laysDeafPowers_8   s.1 s.2 (b := .inl s2) hs hP) (fun s hs => tb_Mo_laysDeafPowers_8   s.1 s.2 (b := .inr e9) hs hX10) _ _ he9) ⟨rfl, ⟨rfl, trivial⟩⟩
def j_Mo_bestStep_44 (v1 : Int64) (v3 : Int64) (v5 : Int32) (v6 : Int32) (v7 : Int32) (v8 : Int32) (v9 : Int32) (g : M2) : Option ((Int64 × Int64 × Int32 × Int32 × M2) ⊕ (Int64 × Int64 × Int32 × M2)) := ((f_Mo_isBroken v7 g).bind fun q4 => (if q4 = 0 then (if inb v8 352 then (if inb v8 352 then (bd (uJ g 158 v8.toNatClampNeg ((g.2 158 v8.toNatClampNeg) + v9.toInt64)) fun g7 => ((f_Mo_laysDeafPowers g7).bind fun q8 => (if inb v8 352 then (if inb v8 352 then (bd (uJ q8 158 v8.toNatClampNeg ((q8.2 158 v8.toNatClampNeg) - v9.toInt64)) fun g10 => ((f_Mo_signOf ((g10.2 157 32) - v1) ((g10.2 157 33) - v3) g10).bind fun q11 => (if q11 < 0 then some (.inl ((g10.2 157 32), (g10.2 157 33), v6, (v6 + (1 : Int32)), g10)) else some (.inl (v1, v3, v5, (v6 + (1 : Int32)), g10))))) else none) else none))) else none) else none) else some (.inl (v1, v3, v5, (v6 + (1 : Int32)), g))))
theorem tj_Mo_bestStep_44 {Lx : Nat}  (v1 : Int64) (v3 : Int64) (v5 : Int32) (v6 : Int32) (v7 : Int32) (v8 : Int32) (v9 : Int32)  (g : M2) {b : (Int64 × Int64 × Int32 × Int32 × M2) ⊕ (Int64 × Int64 × Int32 × M2)} {o : Option Value × M2} (h : j_Mo_bestStep_44 v1 v3 v5 v6 v7 v8 v9 g = some b) (hb : Sum.elim (fun s => Ev Lx 241 cd_241 12 [some (.ref 157), some (.long s.1), none, some (.long s.2.1), none, some (.int s.2.2.1), some (.int s.2.2.2.1)] [] s.2.2.2.2 o) (fun e => Ev Lx 241 cd_241 90 [some (.ref 157), some (.long e.1), none, some (.long e.2.1), none, some (.int e.2.2.1)] [] e.2.2.2 o) b) : Ev Lx 241 cd_241 44 [some (.ref 157), some (.long v1), none, some (.long v3), none, some (.int v5), some (.int v6), some (.int v7), some (.int v8), some (.int v9)] [] g o := by
  unfold j_Mo_bestStep_44 at h
  refine ev_rn (n := 2) (i2 := 46) (L2 := [some (.ref 157), some (.long v1), none, some (.long v3), none, some (.int v5), some (.int v6), some (.int v7), some (.int v8), some (.int v9)]) (st2 := [.int v7, .ref 157]) (g2 := g) cdE_241 rfl ?_
  obtain ⟨q4, hq4, h⟩ := Option.bind_eq_some_iff.mp h
  refine ev_call rfl cdE_61 rfl rfl rfl (e_Mo_isBroken v7  g hq4) ?_
  by_cases hc5 : q4 = 0
  · rw [if_pos hc5] at h
    refine ev_zft cdE_241 rfl (cn_t hc5) ?_
    refine ev_rn (n := 4) (i2 := 53) (L2 := [some (.ref 157), some (.long v1), none, some (.long v3), none, some (.int v5), some (.int v6), some (.int v7), some (.int v8), some (.int v9)]) (st2 := [.int v8, .ref 158, .int v8, .ref 158]) (g2 := g) cdE_241 rfl ?_
    by_cases hi6 : inb v8 352
    · rw [if_pos hi6] at h
      refine ev_laload (v := .long (g.2 158 v8.toNatClampNeg)) rfl (kd_of (show S0[158]? = some (101, 352, List.replicate 352 none) from rfl)) (by decide) hi6 rfl ?_
      refine ev_rn (n := 3) (i2 := 57) (L2 := [some (.ref 157), some (.long v1), none, some (.long v3), none, some (.int v5), some (.int v6), some (.int v7), some (.int v8), some (.int v9)]) (st2 := [.long ((g.2 158 v8.toNatClampNeg) + v9.toInt64), .int v8, .ref 158]) (g2 := g) cdE_241 rfl ?_
      by_cases hi14 : inb v8 352
      · rw [if_pos hi14] at h
        refine bd_elim h (fun g7 hg7 h => ?_)
        refine ev_lastore (g2 := g7) rfl (show S0[158]? = some (101, 352, List.replicate 352 none) from rfl) (by decide) hi14 (by rw [hg7] <;> rfl) ?_
        refine ev_rn (n := 1) (i2 := 59) (L2 := [some (.ref 157), some (.long v1), none, some (.long v3), none, some (.int v5), some (.int v6), some (.int v7), some (.int v8), some (.int v9)]) (st2 := [.ref 157]) (g2 := g7) cdE_241 rfl ?_
        obtain ⟨q8, hq8, h⟩ := Option.bind_eq_some_iff.mp h
        refine ev_call rfl cdE_240 rfl rfl rfl (e_Mo_laysDeafPowers   g7 hq8) ?_
        refine ev_rn (n := 4) (i2 := 64) (L2 := [some (.ref 157), some (.long v1), none, some (.long v3), none, some (.int v5), some (.int v6), some (.int v7), some (.int v8), some (.int v9)]) (st2 := [.int v8, .ref 158, .int v8, .ref 158]) (g2 := q8) cdE_241 rfl ?_
        by_cases hi9 : inb v8 352
        · rw [if_pos hi9] at h
          refine ev_laload (v := .long (q8.2 158 v8.toNatClampNeg)) rfl (kd_of (show S0[158]? = some (101, 352, List.replicate 352 none) from rfl)) (by decide) hi9 rfl ?_
          refine ev_rn (n := 3) (i2 := 68) (L2 := [some (.ref 157), some (.long v1), none, some (.long v3), none, some (.int v5), some (.int v6), some (.int v7), some (.int v8), some (.int v9)]) (st2 := [.long ((q8.2 158 v8.toNatClampNeg) - v9.toInt64), .int v8, .ref 158]) (g2 := q8) cdE_241 rfl ?_
          by_cases hi13 : inb v8 352
          · rw [if_pos hi13] at h
            refine bd_elim h (fun g10 hg10 h => ?_)
            refine ev_lastore (g2 := g10) rfl (show S0[158]? = some (101, 352, List.replicate 352 none) from rfl) (by decide) hi13 (by rw [hg10] <;> rfl) ?_
            refine ev_rn (n := 8) (i2 := 77) (L2 := [some (.ref 157), some (.long v1), none, some (.long v3), none, some (.int v5), some (.int v6), some (.int v7), some (.int v8), some (.int v9)]) (st2 := [.long ((g10.2 157 33) - v3), .long ((g10.2 157 32) - v1)]) (g2 := g10) cdE_241 rfl ?_
            obtain ⟨q11, hq11, h⟩ := Option.bind_eq_some_iff.mp h
            refine ev_call rfl cdE_148 rfl rfl rfl (e_Mo_signOf ((g10.2 157 32) - v1) ((g10.2 157 33) - v3)  g10 hq11) ?_
            by_cases hc12 : q11 < 0
            · rw [if_pos hc12] at h
              refine ev_zft cdE_241 rfl (cn_t hc12) ?_
              refine ev_rn (n := 5) (i2 := 85) (L2 := [some (.ref 157), some (.long (g10.2 157 32)), none, some (.long v3), none, some (.int v6), some (.int v6), some (.int v7), some (.int v8), some (.int v9)]) (st2 := []) (g2 := g10) cdE_241 rfl ?_
              refine ev_rn (n := 3) (i2 := 88) (L2 := [some (.ref 157), some (.long (g10.2 157 32)), none, some (.long (g10.2 157 33)), none, some (.int v6), some (.int v6), some (.int v7), some (.int v8), some (.int v9)]) (st2 := []) (g2 := g10) cdE_241 rfl ?_
              refine ev_rn (n := 2) (i2 := 12) (L2 := [some (.ref 157), some (.long (g10.2 157 32)), none, some (.long (g10.2 157 33)), none, some (.int v6), some (.int (v6 + (1 : Int32))), some (.int v7), some (.int v8), some (.int v9)]) (st2 := []) (g2 := g10) cdE_241 rfl ?_
              cases h
              exact ev_wk (L := [some (.ref 157), some (.long (g10.2 157 32)), none, some (.long (g10.2 157 33)), none, some (.int v6), some (.int (v6 + (1 : Int32)))]) hb ⟨rfl, ⟨rfl, ⟨rfl, ⟨rfl, ⟨rfl, trivial⟩⟩⟩⟩⟩
            · rw [if_neg hc12] at h
              refine ev_zff rfl (cn_f hc12) ?_
              refine ev_rn (n := 3) (i2 := 12) (L2 := [some (.ref 157), some (.long v1), none, some (.long v3), none, some (.int v5), some (.int (v6 + (1 : Int32))), some (.int v7), some (.int v8), some (.int v9)]) (st2 := []) (g2 := g10) cdE_241 rfl ?_
              cases h
              exact ev_wk (L := [some (.ref 157), some (.long v1), none, some (.long v3), none, some (.int v5), some (.int (v6 + (1 : Int32)))]) hb ⟨rfl, ⟨rfl, ⟨rfl, ⟨rfl, ⟨rfl, trivial⟩⟩⟩⟩⟩
          · rw [if_neg hi13] at h
            cases h
        · rw [if_neg hi9] at h
          cases h
      · rw [if_neg hi14] at h
        cases h
    · rw [if_neg hi6] at h
      cases h
  · rw [if_neg hc5] at h
    refine ev_zff rfl (cn_f hc5) ?_
    refine ev_rn (n := 3) (i2 := 12) (L2 := [some (.ref 157), some (.long v1), none, some (.long v3), none, some (.int v5), some (.int (v6 + (1 : Int32))), some (.int v7), some (.int v8), some (.int v9)]) (st2 := []) (g2 := g) cdE_241 rfl ?_
    cases h
    exact ev_wk (L := [some (.ref 157), some (.long v1), none, some (.long v3), none, some (.int v5), some (.int (v6 + (1 : Int32)))]) hb ⟨rfl, ⟨rfl, ⟨rfl, ⟨rfl, ⟨rfl, trivial⟩⟩⟩⟩⟩
def b_Mo_bestStep_12  (v1 : Int64) (v3 : Int64) (v5 : Int32) (v6 : Int32) (g : M2) : Option ((Int64 × Int64 × Int32 × Int32 × M2) ⊕ (Int64 × Int64 × Int32 × M2)) := (if ((8 : Int32) * (g.1 160 1)) ≤ v6 then some (.inr (v1, v3, v5, g)) else (if (v6 - v6 / (2 : Int32) * (2 : Int32)) = 0 then (j_Mo_bestStep_44 v1 v3 v5 v6 (v6 / (8 : Int32)) (((4 : Int32) * ((82 : Int32) + (v6 / (8 : Int32)))) + ((v6 / (2 : Int32)) - (v6 / (2 : Int32)) / (4 : Int32) * (4 : Int32))) (1 : Int32) g) else (j_Mo_bestStep_44 v1 v3 v5 v6 (v6 / (8 : Int32)) (((4 : Int32) * ((82 : Int32) + (v6 / (8 : Int32)))) + ((v6 / (2 : Int32)) - (v6 / (2 : Int32)) / (4 : Int32) * (4 : Int32))) (-1 : Int32) g)))
theorem tb_Mo_bestStep_12 {Lx : Nat}   (v1 : Int64) (v3 : Int64) (v5 : Int32) (v6 : Int32) (g : M2) {b : (Int64 × Int64 × Int32 × Int32 × M2) ⊕ (Int64 × Int64 × Int32 × M2)} {o : Option Value × M2} (h : b_Mo_bestStep_12 v1 v3 v5 v6 g = some b) (hb : Sum.elim (fun s => Ev Lx 241 cd_241 12 [some (.ref 157), some (.long s.1), none, some (.long s.2.1), none, some (.int s.2.2.1), some (.int s.2.2.2.1)] [] s.2.2.2.2 o) (fun e => Ev Lx 241 cd_241 90 [some (.ref 157), some (.long e.1), none, some (.long e.2.1), none, some (.int e.2.2.1)] [] e.2.2.2 o) b) : Ev Lx 241 cd_241 12 [some (.ref 157), some (.long v1), none, some (.long v3), none, some (.int v5), some (.int v6)] [] g o := by
  unfold b_Mo_bestStep_12 at h
  refine ev_rn (n := 5) (i2 := 17) (L2 := [some (.ref 157), some (.long v1), none, some (.long v3), none, some (.int v5), some (.int v6)]) (st2 := [.int (1 : Int32), .ref 160, .int (8 : Int32), .int v6]) (g2 := g) cdE_241 rfl ?_
  refine ev_iaload (v := .int (g.1 160 1)) rfl (kd_of (show S0[160]? = some (100, 19, List.replicate 19 none) from rfl)) (by decide) ⟨by decide, by decide⟩ rfl ?_
  refine ev_rn (n := 1) (i2 := 19) (L2 := [some (.ref 157), some (.long v1), none, some (.long v3), none, some (.int v5), some (.int v6)]) (st2 := [.int ((8 : Int32) * (g.1 160 1)), .int v6]) (g2 := g) cdE_241 rfl ?_
  by_cases hc2 : ((8 : Int32) * (g.1 160 1)) ≤ v6
  · rw [if_pos hc2] at h
    refine ev_ift cdE_241 rfl (cn_t hc2) ?_
    cases h
    exact ev_wk (L := [some (.ref 157), some (.long v1), none, some (.long v3), none, some (.int v5)]) hb ⟨rfl, ⟨rfl, ⟨rfl, ⟨rfl, trivial⟩⟩⟩⟩
  · rw [if_neg hc2] at h
    refine ev_iff rfl (cn_f hc2) ?_
    refine ev_rn (n := 2) (i2 := 22) (L2 := [some (.ref 157), some (.long v1), none, some (.long v3), none, some (.int v5), some (.int v6)]) (st2 := [.int (8 : Int32), .int v6]) (g2 := g) cdE_241 rfl ?_
    refine ev_idiv rfl (by decide) ?_
    refine ev_rn (n := 8) (i2 := 31) (L2 := [some (.ref 157), some (.long v1), none, some (.long v3), none, some (.int v5), some (.int v6), some (.int (v6 / (8 : Int32)))]) (st2 := [.int (2 : Int32), .int v6, .int ((4 : Int32) * ((82 : Int32) + (v6 / (8 : Int32))))]) (g2 := g) cdE_241 rfl ?_
    refine ev_idiv rfl (by decide) ?_
    refine ev_rn (n := 1) (i2 := 33) (L2 := [some (.ref 157), some (.long v1), none, some (.long v3), none, some (.int v5), some (.int v6), some (.int (v6 / (8 : Int32)))]) (st2 := [.int (4 : Int32), .int (v6 / (2 : Int32)), .int ((4 : Int32) * ((82 : Int32) + (v6 / (8 : Int32))))]) (g2 := g) cdE_241 rfl ?_
    refine ev_irem rfl (by decide) ?_
    refine ev_rn (n := 4) (i2 := 38) (L2 := [some (.ref 157), some (.long v1), none, some (.long v3), none, some (.int v5), some (.int v6), some (.int (v6 / (8 : Int32))), some (.int (((4 : Int32) * ((82 : Int32) + (v6 / (8 : Int32)))) + ((v6 / (2 : Int32)) - (v6 / (2 : Int32)) / (4 : Int32) * (4 : Int32))))]) (st2 := [.int (2 : Int32), .int v6]) (g2 := g) cdE_241 rfl ?_
    refine ev_irem rfl (by decide) ?_
    by_cases hc3 : (v6 - v6 / (2 : Int32) * (2 : Int32)) = 0
    · rw [if_pos hc3] at h
      refine ev_zff rfl (cn_f (fun q => q hc3)) ?_
      refine ev_rn (n := 3) (i2 := 44) (L2 := [some (.ref 157), some (.long v1), none, some (.long v3), none, some (.int v5), some (.int v6), some (.int (v6 / (8 : Int32))), some (.int (((4 : Int32) * ((82 : Int32) + (v6 / (8 : Int32)))) + ((v6 / (2 : Int32)) - (v6 / (2 : Int32)) / (4 : Int32) * (4 : Int32)))), some (.int (1 : Int32))]) (st2 := []) (g2 := g) cdE_241 rfl ?_
      exact ev_wk (L := [some (.ref 157), some (.long v1), none, some (.long v3), none, some (.int v5), some (.int v6), some (.int (v6 / (8 : Int32))), some (.int (((4 : Int32) * ((82 : Int32) + (v6 / (8 : Int32)))) + ((v6 / (2 : Int32)) - (v6 / (2 : Int32)) / (4 : Int32) * (4 : Int32)))), some (.int (1 : Int32))]) (tj_Mo_bestStep_44  v1 v3 v5 v6 (v6 / (8 : Int32)) (((4 : Int32) * ((82 : Int32) + (v6 / (8 : Int32)))) + ((v6 / (2 : Int32)) - (v6 / (2 : Int32)) / (4 : Int32) * (4 : Int32))) (1 : Int32)  g h hb) ⟨rfl, ⟨rfl, ⟨rfl, ⟨rfl, ⟨rfl, ⟨rfl, ⟨rfl, ⟨rfl, trivial⟩⟩⟩⟩⟩⟩⟩⟩
    · rw [if_neg hc3] at h
      refine ev_zft cdE_241 rfl (cn_t hc3) ?_
      refine ev_rn (n := 2) (i2 := 44) (L2 := [some (.ref 157), some (.long v1), none, some (.long v3), none, some (.int v5), some (.int v6), some (.int (v6 / (8 : Int32))), some (.int (((4 : Int32) * ((82 : Int32) + (v6 / (8 : Int32)))) + ((v6 / (2 : Int32)) - (v6 / (2 : Int32)) / (4 : Int32) * (4 : Int32)))), some (.int (-1 : Int32))]) (st2 := []) (g2 := g) cdE_241 rfl ?_
      exact ev_wk (L := [some (.ref 157), some (.long v1), none, some (.long v3), none, some (.int v5), some (.int v6), some (.int (v6 / (8 : Int32))), some (.int (((4 : Int32) * ((82 : Int32) + (v6 / (8 : Int32)))) + ((v6 / (2 : Int32)) - (v6 / (2 : Int32)) / (4 : Int32) * (4 : Int32)))), some (.int (-1 : Int32))]) (tj_Mo_bestStep_44  v1 v3 v5 v6 (v6 / (8 : Int32)) (((4 : Int32) * ((82 : Int32) + (v6 / (8 : Int32)))) + ((v6 / (2 : Int32)) - (v6 / (2 : Int32)) / (4 : Int32) * (4 : Int32))) (-1 : Int32)  g h hb) ⟨rfl, ⟨rfl, ⟨rfl, ⟨rfl, ⟨rfl, ⟨rfl, ⟨rfl, ⟨rfl, trivial⟩⟩⟩⟩⟩⟩⟩⟩
def f_Mo_bestStep  (g : M2) : Option (Int32 × M2) := ((f_Mo_laysDeafPowers g).bind fun q1 => ((lp (fun s => b_Mo_bestStep_12  s.1 s.2.1 s.2.2.1 s.2.2.2.1 s.2.2.2.2) 5000 ((q1.2 157 32), (q1.2 157 33), (-1 : Int32), (0 : Int32), q1)).bind fun e15 => (bd (uJ e15.2.2.2 157 32 e15.1) fun g16 => (bd (uJ g16 157 33 e15.2.1) fun g17 => some (e15.2.2.1, g17)))))
theorem e_Mo_bestStep {Lx : Nat}   (g : M2) {b : (Int32 × M2)} (h : f_Mo_bestStep  g = some b) : Ev Lx 241 cd_241 0 [some (.ref 157)] [] g (some (.int b.1), b.2) := by
  unfold f_Mo_bestStep at h
  refine ev_rn (n := 1) (i2 := 1) (L2 := [some (.ref 157)]) (st2 := [.ref 157]) (g2 := g) cdE_241 rfl ?_
  obtain ⟨q1, hq1, h⟩ := Option.bind_eq_some_iff.mp h
  refine ev_call rfl cdE_240 rfl rfl rfl (e_Mo_laysDeafPowers   g hq1) ?_
  refine ev_rn (n := 3) (i2 := 5) (L2 := [some (.ref 157), some (.long (q1.2 157 32)), none]) (st2 := []) (g2 := q1) cdE_241 rfl ?_
  refine ev_rn (n := 3) (i2 := 8) (L2 := [some (.ref 157), some (.long (q1.2 157 32)), none, some (.long (q1.2 157 33)), none]) (st2 := []) (g2 := q1) cdE_241 rfl ?_
  refine ev_rn (n := 4) (i2 := 12) (L2 := [some (.ref 157), some (.long (q1.2 157 32)), none, some (.long (q1.2 157 33)), none, some (.int (-1 : Int32)), some (.int (0 : Int32))]) (st2 := []) (g2 := q1) cdE_241 rfl ?_
  obtain ⟨e15, he15, h⟩ := Option.bind_eq_some_iff.mp h
  have hX18 : Ev Lx 241 cd_241 90 [some (.ref 157), some (.long e15.1), none, some (.long e15.2.1), none, some (.int e15.2.2.1)] [] e15.2.2.2 (some (.int b.1), b.2) := by
    refine ev_rn (n := 2) (i2 := 92) (L2 := [some (.ref 157), some (.long e15.1), none, some (.long e15.2.1), none, some (.int e15.2.2.1)]) (st2 := [.long e15.1, .ref 157]) (g2 := e15.2.2.2) cdE_241 rfl ?_
    refine bd_elim h (fun g16 hg16 h => ?_)
    refine ev_pf (g2 := g16) rfl (rfl : S0[157]? = some _) (by decide) (by rw [hg16] <;> rfl) ?_
    refine ev_rn (n := 2) (i2 := 95) (L2 := [some (.ref 157), some (.long e15.1), none, some (.long e15.2.1), none, some (.int e15.2.2.1)]) (st2 := [.long e15.2.1, .ref 157]) (g2 := g16) cdE_241 rfl ?_
    refine bd_elim h (fun g17 hg17 h => ?_)
    refine ev_pf (g2 := g17) rfl (rfl : S0[157]? = some _) (by decide) (by rw [hg17] <;> rfl) ?_
    refine ev_rn (n := 1) (i2 := 97) (L2 := [some (.ref 157), some (.long e15.1), none, some (.long e15.2.1), none, some (.int e15.2.2.1)]) (st2 := [.int e15.2.2.1]) (g2 := g17) cdE_241 rfl ?_
    cases h
    exact ev_ret rfl rfl
  exact ev_wk (L := [some (.ref 157), some (.long (q1.2 157 32)), none, some (.long (q1.2 157 33)), none, some (.int (-1 : Int32)), some (.int (0 : Int32))]) (lp_ind (P := (fun (s : (Int64 × Int64 × Int32 × Int32 × M2)) => Ev Lx 241 cd_241 12 [some (.ref 157), some (.long s.1), none, some (.long s.2.1), none, some (.int s.2.2.1), some (.int s.2.2.2.1)] [] s.2.2.2.2 (some (.int b.1), b.2))) (fun s s2 hs hP => tb_Mo_bestStep_12   s.1 s.2.1 s.2.2.1 s.2.2.2.1 s.2.2.2.2 (b := .inl s2) hs hP) (fun s hs => tb_Mo_bestStep_12   s.1 s.2.1 s.2.2.1 s.2.2.2.1 s.2.2.2.2 (b := .inr e15) hs hX18) _ _ he15) ⟨rfl, ⟨rfl, ⟨rfl, ⟨rfl, ⟨rfl, trivial⟩⟩⟩⟩⟩
def f_Mo_step (p0 : Int32) (g : M2) : Option (Int32 × M2) := (if (f_Mo_in p0.toInt64 (0 : Int64) (2 : Int64) g) = 0 then some ((-2 : Int32), g) else ((f_Mo_cutsNow g).bind fun q2 => (if q2.1 = 0 then some ((-2 : Int32), q2.2) else ((f_Mo_bestStep q2.2).bind fun q4 => (if q4.1 = (-1 : Int32) then some ((-1 : Int32), q4.2) else (if p0 = 0 then some ((q4.1 / (8 : Int32)), q4.2) else (if p0 = (1 : Int32) then some (((q4.1 / (2 : Int32)) - (q4.1 / (2 : Int32)) / (4 : Int32) * (4 : Int32)), q4.2) else (if (q4.1 - q4.1 / (2 : Int32) * (2 : Int32)) = 0 then some ((1 : Int32), q4.2) else some ((-1 : Int32), q4.2)))))))))
theorem e_Mo_step {Lx : Nat} (p0 : Int32)  (g : M2) {b : (Int32 × M2)} (h : f_Mo_step p0 g = some b) : Ev Lx 242 cd_242 0 [some (.ref 157), some (.int p0)] [] g (some (.int b.1), b.2) := by
  unfold f_Mo_step at h
  refine ev_rn (n := 4) (i2 := 4) (L2 := [some (.ref 157), some (.int p0)]) (st2 := [.long (2 : Int64), .long (0 : Int64), .long p0.toInt64]) (g2 := g) cdE_242 rfl ?_
  refine ev_call rfl cdE_16 rfl rfl rfl (e_Mo_in p0.toInt64 (0 : Int64) (2 : Int64)  g rfl) ?_
  by_cases hc1 : (f_Mo_in p0.toInt64 (0 : Int64) (2 : Int64) g) = 0
  · rw [if_pos hc1] at h
    refine ev_zft cdE_242 rfl (cn_t hc1) ?_
    refine ev_rn (n := 1) (i2 := 10) (L2 := [some (.ref 157), some (.int p0)]) (st2 := [.int (-2 : Int32)]) (g2 := g) cdE_242 rfl ?_
    cases h
    exact ev_ret rfl rfl
  · rw [if_neg hc1] at h
    refine ev_zff rfl (cn_f hc1) ?_
    refine ev_rn (n := 1) (i2 := 7) (L2 := [some (.ref 157), some (.int p0)]) (st2 := [.ref 157]) (g2 := g) cdE_242 rfl ?_
    obtain ⟨q2, hq2, h⟩ := Option.bind_eq_some_iff.mp h
    refine ev_call rfl cdE_215 rfl rfl rfl (e_Mo_cutsNow   g hq2) ?_
    by_cases hc3 : q2.1 = 0
    · rw [if_pos hc3] at h
      refine ev_zff rfl (cn_f (fun q => q hc3)) ?_
      refine ev_rn (n := 1) (i2 := 10) (L2 := [some (.ref 157), some (.int p0)]) (st2 := [.int (-2 : Int32)]) (g2 := q2.2) cdE_242 rfl ?_
      cases h
      exact ev_ret rfl rfl
    · rw [if_neg hc3] at h
      refine ev_zft cdE_242 rfl (cn_t hc3) ?_
      refine ev_rn (n := 1) (i2 := 12) (L2 := [some (.ref 157), some (.int p0)]) (st2 := [.ref 157]) (g2 := q2.2) cdE_242 rfl ?_
      obtain ⟨q4, hq4, h⟩ := Option.bind_eq_some_iff.mp h
      refine ev_call rfl cdE_241 rfl rfl rfl (e_Mo_bestStep   q2.2 hq4) ?_
      refine ev_rn (n := 3) (i2 := 16) (L2 := [some (.ref 157), some (.int p0), some (.int q4.1)]) (st2 := [.int (-1 : Int32), .int q4.1]) (g2 := q4.2) cdE_242 rfl ?_
      by_cases hc5 : q4.1 = (-1 : Int32)
      · rw [if_pos hc5] at h
        refine ev_iff rfl (cn_f (fun q => q hc5)) ?_
        refine ev_rn (n := 1) (i2 := 18) (L2 := [some (.ref 157), some (.int p0), some (.int q4.1)]) (st2 := [.int (-1 : Int32)]) (g2 := q4.2) cdE_242 rfl ?_
        cases h
        exact ev_ret rfl rfl
      · rw [if_neg hc5] at h
        refine ev_ift cdE_242 rfl (cn_t hc5) ?_
        refine ev_rn (n := 1) (i2 := 20) (L2 := [some (.ref 157), some (.int p0), some (.int q4.1)]) (st2 := [.int p0]) (g2 := q4.2) cdE_242 rfl ?_
        by_cases hc6 : p0 = 0
        · rw [if_pos hc6] at h
          refine ev_zff rfl (cn_f (fun q => q hc6)) ?_
          refine ev_rn (n := 2) (i2 := 23) (L2 := [some (.ref 157), some (.int p0), some (.int q4.1)]) (st2 := [.int (8 : Int32), .int q4.1]) (g2 := q4.2) cdE_242 rfl ?_
          refine ev_idiv rfl (by decide) ?_
          refine ev_rn (n := 1) (i2 := 41) (L2 := [some (.ref 157), some (.int p0), some (.int q4.1)]) (st2 := [.int (q4.1 / (8 : Int32))]) (g2 := q4.2) cdE_242 rfl ?_
          cases h
          exact ev_ret rfl rfl
        · rw [if_neg hc6] at h
          refine ev_zft cdE_242 rfl (cn_t hc6) ?_
          refine ev_rn (n := 2) (i2 := 27) (L2 := [some (.ref 157), some (.int p0), some (.int q4.1)]) (st2 := [.int (1 : Int32), .int p0]) (g2 := q4.2) cdE_242 rfl ?_
          by_cases hc7 : p0 = (1 : Int32)
          · rw [if_pos hc7] at h
            refine ev_iff rfl (cn_f (fun q => q hc7)) ?_
            refine ev_rn (n := 2) (i2 := 30) (L2 := [some (.ref 157), some (.int p0), some (.int q4.1)]) (st2 := [.int (2 : Int32), .int q4.1]) (g2 := q4.2) cdE_242 rfl ?_
            refine ev_idiv rfl (by decide) ?_
            refine ev_rn (n := 1) (i2 := 32) (L2 := [some (.ref 157), some (.int p0), some (.int q4.1)]) (st2 := [.int (4 : Int32), .int (q4.1 / (2 : Int32))]) (g2 := q4.2) cdE_242 rfl ?_
            refine ev_irem rfl (by decide) ?_
            refine ev_rn (n := 1) (i2 := 41) (L2 := [some (.ref 157), some (.int p0), some (.int q4.1)]) (st2 := [.int ((q4.1 / (2 : Int32)) - (q4.1 / (2 : Int32)) / (4 : Int32) * (4 : Int32))]) (g2 := q4.2) cdE_242 rfl ?_
            cases h
            exact ev_ret rfl rfl
          · rw [if_neg hc7] at h
            refine ev_ift cdE_242 rfl (cn_t hc7) ?_
            refine ev_rn (n := 2) (i2 := 36) (L2 := [some (.ref 157), some (.int p0), some (.int q4.1)]) (st2 := [.int (2 : Int32), .int q4.1]) (g2 := q4.2) cdE_242 rfl ?_
            refine ev_irem rfl (by decide) ?_
            by_cases hc8 : (q4.1 - q4.1 / (2 : Int32) * (2 : Int32)) = 0
            · rw [if_pos hc8] at h
              refine ev_zff rfl (cn_f (fun q => q hc8)) ?_
              refine ev_rn (n := 2) (i2 := 41) (L2 := [some (.ref 157), some (.int p0), some (.int q4.1)]) (st2 := [.int (1 : Int32)]) (g2 := q4.2) cdE_242 rfl ?_
              cases h
              exact ev_ret rfl rfl
            · rw [if_neg hc8] at h
              refine ev_zft cdE_242 rfl (cn_t hc8) ?_
              refine ev_rn (n := 1) (i2 := 41) (L2 := [some (.ref 157), some (.int p0), some (.int q4.1)]) (st2 := [.int (-1 : Int32)]) (g2 := q4.2) cdE_242 rfl ?_
              cases h
              exact ev_ret rfl rfl
def b_Cu_losesNothing_16 (v1 : Nat) (v2 : Int32) (v3 : Int32) (v4 : Int32) (g : M2) : Option (Int32 ⊕ (Unit ⊕ Int32)) := (if (4 : Int32) ≤ v4 then some (.inr (.inl ())) else (if inb v3 5 then (if (g.2 v1 16) = 0 then none else (if (((f_Nu_part ((v1 + 43) + 1 + v3.toNatClampNeg) v4 g) * v2.toInt64) - ((f_Nu_part ((v1 + 43) + 1 + v3.toNatClampNeg) v4 g) * v2.toInt64) / (g.2 v1 16) * (g.2 v1 16)) = (0 : Int64) then some (.inl (v4 + (1 : Int32))) else some (.inr (.inr (0 : Int32))))) else none))
theorem tb_Cu_losesNothing_16 {Lx : Nat} (v1 : Nat) (v2 : Int32) (v3 : Int32) (hv1 : IsSol v1) (v4 : Int32) (g : M2) {b : Int32 ⊕ (Unit ⊕ Int32)} {o : Option Value × M2} (h : b_Cu_losesNothing_16 v1 v2 v3 v4 g = some b) (hb : Sum.elim (fun s => Ev Lx 243 cd_243 16 [none, some (.ref v1), some (.int v2), some (.int v3), some (.int s)] [] g o) (Sum.elim (fun e => Ev Lx 243 cd_243 38 [none, some (.ref v1), some (.int v2), some (.int v3)] [] g o) (fun r => o = (some (.int r), g))) b) : Ev Lx 243 cd_243 16 [none, some (.ref v1), some (.int v2), some (.int v3), some (.int v4)] [] g o := by
  unfold b_Cu_losesNothing_16 at h
  refine ev_rn (n := 2) (i2 := 18) (L2 := [none, some (.ref v1), some (.int v2), some (.int v3), some (.int v4)]) (st2 := [.int (4 : Int32), .int v4]) (g2 := g) cdE_243 rfl ?_
  by_cases hc3 : (4 : Int32) ≤ v4
  · rw [if_pos hc3] at h
    refine ev_ift cdE_243 rfl (cn_t hc3) ?_
    cases h
    exact ev_wk (L := [none, some (.ref v1), some (.int v2), some (.int v3)]) hb ⟨rfl, ⟨rfl, ⟨rfl, trivial⟩⟩⟩
  · rw [if_neg hc3] at h
    refine ev_iff rfl (cn_f hc3) ?_
    refine ev_rn (n := 1) (i2 := 20) (L2 := [none, some (.ref v1), some (.int v2), some (.int v3), some (.int v4)]) (st2 := [.ref v1]) (g2 := g) cdE_243 rfl ?_
    refine ev_gf (v := .ref (v1 + 43)) rfl (so_at hv1) (by decide) rfl ?_
    refine ev_rn (n := 1) (i2 := 22) (L2 := [none, some (.ref v1), some (.int v2), some (.int v3), some (.int v4)]) (st2 := [.int v3, .ref (v1 + 43)]) (g2 := g) cdE_243 rfl ?_
    by_cases hi4 : inb v3 5
    · rw [if_pos hi4] at h
      refine ev_aaload (v := .ref ((v1 + 43) + 1 + v3.toNatClampNeg)) rfl (kd_of (na_at (so_43 hv1))) (by decide) hi4 (na_rf (w := (v1 + 43)) hi4.2) ?_
      refine ev_rn (n := 1) (i2 := 24) (L2 := [none, some (.ref v1), some (.int v2), some (.int v3), some (.int v4)]) (st2 := [.int v4, .ref ((v1 + 43) + 1 + v3.toNatClampNeg)]) (g2 := g) cdE_243 rfl ?_
      refine ev_call rfl cdE_124 (cokV rfl rfl (na_el (so_43 hv1) hi4.2) rfl) rfl rfl (e_Nu_part ((v1 + 43) + 1 + v3.toNatClampNeg) v4 (na_el (so_43 hv1) hi4.2) g rfl) ?_
      refine ev_rn (n := 4) (i2 := 29) (L2 := [none, some (.ref v1), some (.int v2), some (.int v3), some (.int v4)]) (st2 := [.ref v1, .long ((f_Nu_part ((v1 + 43) + 1 + v3.toNatClampNeg) v4 g) * v2.toInt64)]) (g2 := g) cdE_243 rfl ?_
      refine ev_gf (v := .long (g.2 v1 16)) rfl (so_at hv1) (by decide) rfl ?_
      by_cases hd6 : (g.2 v1 16) = 0
      · rw [if_pos hd6] at h
        cases h
      · rw [if_neg hd6] at h
        refine ev_lrem rfl hd6 ?_
        refine ev_rn (n := 2) (i2 := 33) (L2 := [none, some (.ref v1), some (.int v2), some (.int v3), some (.int v4)]) (st2 := [.int (lg_cmp (((f_Nu_part ((v1 + 43) + 1 + v3.toNatClampNeg) v4 g) * v2.toInt64) - ((f_Nu_part ((v1 + 43) + 1 + v3.toNatClampNeg) v4 g) * v2.toInt64) / (g.2 v1 16) * (g.2 v1 16)) (0 : Int64))]) (g2 := g) cdE_243 rfl ?_
        by_cases hc5 : (((f_Nu_part ((v1 + 43) + 1 + v3.toNatClampNeg) v4 g) * v2.toInt64) - ((f_Nu_part ((v1 + 43) + 1 + v3.toNatClampNeg) v4 g) * v2.toInt64) / (g.2 v1 16) * (g.2 v1 16)) = (0 : Int64)
        · rw [if_pos hc5] at h
          refine ev_zft cdE_243 rfl (lc_eq_t hc5) ?_
          refine ev_rn (n := 2) (i2 := 16) (L2 := [none, some (.ref v1), some (.int v2), some (.int v3), some (.int (v4 + (1 : Int32)))]) (st2 := []) (g2 := g) cdE_243 rfl ?_
          cases h
          exact ev_wk (L := [none, some (.ref v1), some (.int v2), some (.int v3), some (.int (v4 + (1 : Int32)))]) hb ⟨rfl, ⟨rfl, ⟨rfl, ⟨rfl, trivial⟩⟩⟩⟩
        · rw [if_neg hc5] at h
          refine ev_zff rfl (lc_eq_f hc5) ?_
          refine ev_rn (n := 1) (i2 := 35) (L2 := [none, some (.ref v1), some (.int v2), some (.int v3), some (.int v4)]) (st2 := [.int (0 : Int32)]) (g2 := g) cdE_243 rfl ?_
          cases h
          cases hb
          exact ev_ret rfl rt_0
    · rw [if_neg hi4] at h
      cases h
def b_Cu_losesNothing_9 (v1 : Nat) (v2 : Int32) (v3 : Int32) (g : M2) : Option (Int32 ⊕ (Unit ⊕ Int32)) := (if (g.1 (v1 + 1) 2) ≤ v3 then some (.inr (.inl ())) else ((lp (fun s => b_Cu_losesNothing_16 v1 v2 v3 s g) 5000 (0 : Int32)).bind fun ue7 => Sum.elim (fun e7 => some (.inl (v3 + (1 : Int32)))) (fun re7 => some (.inr (.inr re7))) ue7))
theorem tb_Cu_losesNothing_9 {Lx : Nat} (v1 : Nat) (v2 : Int32) (hv1 : IsSol v1) (v3 : Int32) (g : M2) {b : Int32 ⊕ (Unit ⊕ Int32)} {o : Option Value × M2} (h : b_Cu_losesNothing_9 v1 v2 v3 g = some b) (hb : Sum.elim (fun s => Ev Lx 243 cd_243 9 [none, some (.ref v1), some (.int v2), some (.int s)] [] g o) (Sum.elim (fun e => Ev Lx 243 cd_243 40 [] [] g o) (fun r => o = (some (.int r), g))) b) : Ev Lx 243 cd_243 9 [none, some (.ref v1), some (.int v2), some (.int v3)] [] g o := by
  unfold b_Cu_losesNothing_9 at h
  refine ev_rn (n := 2) (i2 := 11) (L2 := [none, some (.ref v1), some (.int v2), some (.int v3)]) (st2 := [.ref v1, .int v3]) (g2 := g) cdE_243 rfl ?_
  refine ev_gf (v := .ref (v1 + 1)) rfl (so_at hv1) (by decide) rfl ?_
  refine ev_gf (v := .int (g.1 (v1 + 1) 2)) rfl (pl_at (so_1 hv1)) (by decide) rfl ?_
  by_cases hc2 : (g.1 (v1 + 1) 2) ≤ v3
  · rw [if_pos hc2] at h
    refine ev_ift cdE_243 rfl (cn_t hc2) ?_
    cases h
    exact ev_wk (L := []) hb trivial
  · rw [if_neg hc2] at h
    refine ev_iff rfl (cn_f hc2) ?_
    refine ev_rn (n := 2) (i2 := 16) (L2 := [none, some (.ref v1), some (.int v2), some (.int v3), some (.int (0 : Int32))]) (st2 := []) (g2 := g) cdE_243 rfl ?_
    obtain ⟨ue7, he7, h⟩ := Option.bind_eq_some_iff.mp h
    cases ue7 with
    | inl e7 =>
      replace h := h
      have hX8 : Ev Lx 243 cd_243 38 [none, some (.ref v1), some (.int v2), some (.int v3)] [] g o := by
        simp only [Sum.elim_inl] at h
        refine ev_rn (n := 2) (i2 := 9) (L2 := [none, some (.ref v1), some (.int v2), some (.int (v3 + (1 : Int32)))]) (st2 := []) (g2 := g) cdE_243 rfl ?_
        cases h
        exact ev_wk (L := [none, some (.ref v1), some (.int v2), some (.int (v3 + (1 : Int32)))]) hb ⟨rfl, ⟨rfl, ⟨rfl, trivial⟩⟩⟩
      exact ev_wk (L := [none, some (.ref v1), some (.int v2), some (.int v3), some (.int (0 : Int32))]) (lp_ind (P := (fun (s : Int32) => Ev Lx 243 cd_243 16 [none, some (.ref v1), some (.int v2), some (.int v3), some (.int s)] [] g o)) (fun s s2 hs hP => tb_Cu_losesNothing_16 v1 v2 v3 hv1 s g (b := .inl s2) hs hP) (fun s hs => tb_Cu_losesNothing_16 v1 v2 v3 hv1 s g (b := .inr (.inl e7)) hs hX8) _ _ he7) ⟨rfl, ⟨rfl, ⟨rfl, ⟨rfl, trivial⟩⟩⟩⟩
    | inr re7 =>
      simp only [Sum.elim_inr] at h
      cases h
      cases hb
      exact ev_wk (L := [none, some (.ref v1), some (.int v2), some (.int v3), some (.int (0 : Int32))]) (lp_ind (P := (fun (s : Int32) => Ev Lx 243 cd_243 16 [none, some (.ref v1), some (.int v2), some (.int v3), some (.int s)] [] g (some (.int re7), g))) (fun s s2 hs hP => tb_Cu_losesNothing_16 v1 v2 v3 hv1 s g (b := .inl s2) hs hP) (fun s hs => tb_Cu_losesNothing_16 v1 v2 v3 hv1 s g (b := .inr (.inr re7)) hs rfl) _ _ he7) ⟨rfl, ⟨rfl, ⟨rfl, ⟨rfl, trivial⟩⟩⟩⟩
def f_Cu_losesNothing (p0 : Nat) (p1 : Int32) (g : M2) : Option (Int32) := (if (g.2 p0 16) = (0 : Int64) then some (0 : Int32) else ((lp (fun s => b_Cu_losesNothing_9 p0 p1 s g) 5000 (0 : Int32)).bind fun ue9 => Sum.elim (fun e9 => some (1 : Int32)) (fun re9 => some re9) ue9))
theorem e_Cu_losesNothing {Lx : Nat} (p0 : Nat) (p1 : Int32) (hp0 : IsSol p0) (g : M2) {b : Int32} (h : f_Cu_losesNothing p0 p1 g = some b) : Ev Lx 243 cd_243 0 [some (.ref 138), some (.ref p0), some (.int p1)] [] g (some (.int b), g) := by
  unfold f_Cu_losesNothing at h
  refine ev_rn (n := 1) (i2 := 1) (L2 := [some (.ref 138), some (.ref p0), some (.int p1)]) (st2 := [.ref p0]) (g2 := g) cdE_243 rfl ?_
  refine ev_gf (v := .long (g.2 p0 16)) rfl (so_at hp0) (by decide) rfl ?_
  refine ev_rn (n := 2) (i2 := 4) (L2 := [some (.ref 138), some (.ref p0), some (.int p1)]) (st2 := [.int (lg_cmp (g.2 p0 16) (0 : Int64))]) (g2 := g) cdE_243 rfl ?_
  by_cases hc1 : (g.2 p0 16) = (0 : Int64)
  · rw [if_pos hc1] at h
    refine ev_zff rfl (lc_ne_f hc1) ?_
    refine ev_rn (n := 1) (i2 := 6) (L2 := [some (.ref 138), some (.ref p0), some (.int p1)]) (st2 := [.int (0 : Int32)]) (g2 := g) cdE_243 rfl ?_
    cases h
    exact ev_ret rfl rt_0
  · rw [if_neg hc1] at h
    refine ev_zft cdE_243 rfl (lc_ne_t hc1) ?_
    refine ev_rn (n := 2) (i2 := 9) (L2 := [some (.ref 138), some (.ref p0), some (.int p1), some (.int (0 : Int32))]) (st2 := []) (g2 := g) cdE_243 rfl ?_
    obtain ⟨ue9, he9, h⟩ := Option.bind_eq_some_iff.mp h
    cases ue9 with
    | inl e9 =>
      replace h := h
      have hX10 : Ev Lx 243 cd_243 40 [] [] g (some (.int b), g) := by
        simp only [Sum.elim_inl] at h
        refine ev_rn (n := 1) (i2 := 41) (L2 := []) (st2 := [.int (1 : Int32)]) (g2 := g) cdE_243 rfl ?_
        cases h
        exact ev_ret rfl rt_1
      exact ev_wk (L := [none, some (.ref p0), some (.int p1), some (.int (0 : Int32))]) (lp_ind (P := (fun (s : Int32) => Ev Lx 243 cd_243 9 [none, some (.ref p0), some (.int p1), some (.int s)] [] g (some (.int b), g))) (fun s s2 hs hP => tb_Cu_losesNothing_9 p0 p1 hp0 s g (b := .inl s2) hs hP) (fun s hs => tb_Cu_losesNothing_9 p0 p1 hp0 s g (b := .inr (.inl e9)) hs hX10) _ _ he9) ⟨rfl, ⟨rfl, ⟨rfl, trivial⟩⟩⟩
    | inr re9 =>
      simp only [Sum.elim_inr] at h
      cases h
      exact ev_wk (L := [none, some (.ref p0), some (.int p1), some (.int (0 : Int32))]) (lp_ind (P := (fun (s : Int32) => Ev Lx 243 cd_243 9 [none, some (.ref p0), some (.int p1), some (.int s)] [] g (some (.int b), g))) (fun s s2 hs hP => tb_Cu_losesNothing_9 p0 p1 hp0 s g (b := .inl s2) hs hP) (fun s hs => tb_Cu_losesNothing_9 p0 p1 hp0 s g (b := .inr (.inr b)) hs rfl) _ _ he9) ⟨rfl, ⟨rfl, ⟨rfl, trivial⟩⟩⟩
def b_Da_exactly_10  (v1 : Int32) (g : M2) : Option (Int32 ⊕ (Unit ⊕ (Int32 × M2))) := (if (99 : Int32) < v1 then some (.inr (.inl ())) else ((f_Cu_losesNothing 6 v1 g).bind fun q4 => (if q4 = 0 then some (.inl (v1 + (1 : Int32))) else some (.inr (.inr (v1, g))))))
theorem tb_Da_exactly_10 {Lx : Nat}   (v1 : Int32) (g : M2) {b : Int32 ⊕ (Unit ⊕ (Int32 × M2))} {o : Option Value × M2} (h : b_Da_exactly_10 v1 g = some b) (hb : Sum.elim (fun s => Ev Lx 244 cd_244 10 [some (.ref 0), some (.int s)] [] g o) (Sum.elim (fun e => Ev Lx 244 cd_244 24 [] [] g o) (fun r => o = (some (.int r.1), r.2))) b) : Ev Lx 244 cd_244 10 [some (.ref 0), some (.int v1)] [] g o := by
  unfold b_Da_exactly_10 at h
  refine ev_rn (n := 2) (i2 := 12) (L2 := [some (.ref 0), some (.int v1)]) (st2 := [.int (99 : Int32), .int v1]) (g2 := g) cdE_244 rfl ?_
  by_cases hc3 : (99 : Int32) < v1
  · rw [if_pos hc3] at h
    refine ev_ift cdE_244 rfl (cn_t hc3) ?_
    cases h
    exact ev_wk (L := []) hb trivial
  · rw [if_neg hc3] at h
    refine ev_iff rfl (cn_f hc3) ?_
    refine ev_rn (n := 5) (i2 := 18) (L2 := [some (.ref 0), some (.int v1)]) (st2 := [.int v1, .ref 6, .ref 138]) (g2 := g) cdE_244 rfl ?_
    obtain ⟨q4, hq4, h⟩ := Option.bind_eq_some_iff.mp h
    refine ev_call rfl cdE_243 rfl rfl rfl (e_Cu_losesNothing 6 v1 (by decide) g hq4) ?_
    by_cases hc5 : q4 = 0
    · rw [if_pos hc5] at h
      refine ev_zft cdE_244 rfl (cn_t hc5) ?_
      refine ev_rn (n := 2) (i2 := 10) (L2 := [some (.ref 0), some (.int (v1 + (1 : Int32)))]) (st2 := []) (g2 := g) cdE_244 rfl ?_
      cases h
      exact ev_wk (L := [some (.ref 0), some (.int (v1 + (1 : Int32)))]) hb ⟨rfl, ⟨rfl, trivial⟩⟩
    · rw [if_neg hc5] at h
      refine ev_zff rfl (cn_f hc5) ?_
      refine ev_rn (n := 1) (i2 := 21) (L2 := [some (.ref 0), some (.int v1)]) (st2 := [.int v1]) (g2 := g) cdE_244 rfl ?_
      cases h
      cases hb
      exact ev_ret rfl rfl
def f_Da_exactly  (g : M2) : Option (Int32 × M2) := ((f_Da_refresh g).bind fun q1 => (if (q1.1 6 13) = 0 then some ((-2 : Int32), q1) else ((lp (fun s => b_Da_exactly_10  s q1) 5000 (1 : Int32)).bind fun ue6 => Sum.elim (fun e6 => some ((-1 : Int32), q1)) (fun re6 => some re6) ue6)))
theorem e_Da_exactly {Lx : Nat}   (g : M2) {b : (Int32 × M2)} (h : f_Da_exactly  g = some b) : Ev Lx 244 cd_244 0 [some (.ref 0)] [] g (some (.int b.1), b.2) := by
  unfold f_Da_exactly at h
  refine ev_rn (n := 1) (i2 := 1) (L2 := [some (.ref 0)]) (st2 := [.ref 0]) (g2 := g) cdE_244 rfl ?_
  obtain ⟨q1, hq1, h⟩ := Option.bind_eq_some_iff.mp h
  refine ev_call rfl cdE_100 rfl rfl rfl (e_Da_refresh   g hq1) ?_
  refine ev_rn (n := 3) (i2 := 5) (L2 := [some (.ref 0)]) (st2 := [.int (q1.1 6 13)]) (g2 := q1) cdE_244 rfl ?_
  by_cases hc2 : (q1.1 6 13) = 0
  · rw [if_pos hc2] at h
    refine ev_zff rfl (cn_f (fun q => q hc2)) ?_
    refine ev_rn (n := 1) (i2 := 7) (L2 := [some (.ref 0)]) (st2 := [.int (-2 : Int32)]) (g2 := q1) cdE_244 rfl ?_
    cases h
    exact ev_ret rfl rfl
  · rw [if_neg hc2] at h
    refine ev_zft cdE_244 rfl (cn_t hc2) ?_
    refine ev_rn (n := 2) (i2 := 10) (L2 := [some (.ref 0), some (.int (1 : Int32))]) (st2 := []) (g2 := q1) cdE_244 rfl ?_
    obtain ⟨ue6, he6, h⟩ := Option.bind_eq_some_iff.mp h
    cases ue6 with
    | inl e6 =>
      replace h := h
      have hX7 : Ev Lx 244 cd_244 24 [] [] q1 (some (.int b.1), b.2) := by
        simp only [Sum.elim_inl] at h
        refine ev_rn (n := 1) (i2 := 25) (L2 := []) (st2 := [.int (-1 : Int32)]) (g2 := q1) cdE_244 rfl ?_
        cases h
        exact ev_ret rfl rfl
      exact ev_wk (L := [some (.ref 0), some (.int (1 : Int32))]) (lp_ind (P := (fun (s : Int32) => Ev Lx 244 cd_244 10 [some (.ref 0), some (.int s)] [] q1 (some (.int b.1), b.2))) (fun s s2 hs hP => tb_Da_exactly_10   s q1 (b := .inl s2) hs hP) (fun s hs => tb_Da_exactly_10   s q1 (b := .inr (.inl e6)) hs hX7) _ _ he6) ⟨rfl, ⟨rfl, trivial⟩⟩
    | inr re6 =>
      simp only [Sum.elim_inr] at h
      cases h
      exact ev_wk (L := [some (.ref 0), some (.int (1 : Int32))]) (lp_ind (P := (fun (s : Int32) => Ev Lx 244 cd_244 10 [some (.ref 0), some (.int s)] [] q1 (some (.int b.1), b.2))) (fun s s2 hs hP => tb_Da_exactly_10   s q1 (b := .inl s2) hs hP) (fun s hs => tb_Da_exactly_10   s q1 (b := .inr (.inr b)) hs rfl) _ _ he6) ⟨rfl, ⟨rfl, trivial⟩⟩
def b_Mo_exactly_14 (v1 : Int32) (v2 : Int32) (v3 : Int32) (g : M2) : Option ((Int32 × Int32) ⊕ Int32) := (if (g.1 157 8) ≤ v3 then some (.inr v2) else (if v2 = 0 then some (.inl ((0 : Int32), (v3 + (1 : Int32)))) else ((f_Mo_told ((62 : Int32) + v3) (g.2 157 16) (4 : Int32) g).bind fun q6 => (if q6 = 0 then none else (if (v1.toInt64 - v1.toInt64 / q6 * q6) = (0 : Int64) then some (.inl ((1 : Int32), (v3 + (1 : Int32)))) else some (.inl ((0 : Int32), (v3 + (1 : Int32)))))))))
theorem tb_Mo_exactly_14 {Lx : Nat} (v1 : Int32)  (v2 : Int32) (v3 : Int32) (g : M2) {b : (Int32 × Int32) ⊕ Int32} {o : Option Value × M2} (h : b_Mo_exactly_14 v1 v2 v3 g = some b) (hb : Sum.elim (fun s => Ev Lx 245 cd_245 14 [some (.ref 157), some (.int v1), some (.int s.1), some (.int s.2)] [] g o) (fun e => Ev Lx 245 cd_245 40 [some (.ref 157), some (.int v1), some (.int e)] [] g o) b) : Ev Lx 245 cd_245 14 [some (.ref 157), some (.int v1), some (.int v2), some (.int v3)] [] g o := by
  unfold b_Mo_exactly_14 at h
  refine ev_rn (n := 3) (i2 := 17) (L2 := [some (.ref 157), some (.int v1), some (.int v2), some (.int v3)]) (st2 := [.int (g.1 157 8), .int v3]) (g2 := g) cdE_245 rfl ?_
  by_cases hc4 : (g.1 157 8) ≤ v3
  · rw [if_pos hc4] at h
    refine ev_ift cdE_245 rfl (cn_t hc4) ?_
    cases h
    exact ev_wk (L := [some (.ref 157), some (.int v1), some (.int v2)]) hb ⟨rfl, ⟨rfl, ⟨rfl, trivial⟩⟩⟩
  · rw [if_neg hc4] at h
    refine ev_iff rfl (cn_f hc4) ?_
    refine ev_rn (n := 1) (i2 := 19) (L2 := [some (.ref 157), some (.int v1), some (.int v2), some (.int v3)]) (st2 := [.int v2]) (g2 := g) cdE_245 rfl ?_
    by_cases hc5 : v2 = 0
    · rw [if_pos hc5] at h
      refine ev_zft cdE_245 rfl (cn_t hc5) ?_
      refine ev_rn (n := 3) (i2 := 39) (L2 := [some (.ref 157), some (.int v1), some (.int (0 : Int32)), some (.int (v3 + (1 : Int32)))]) (st2 := []) (g2 := g) cdE_245 rfl ?_
      refine ev_rn (n := 1) (i2 := 14) (L2 := [some (.ref 157), some (.int v1), some (.int (0 : Int32)), some (.int (v3 + (1 : Int32)))]) (st2 := []) (g2 := g) cdE_245 rfl ?_
      cases h
      exact ev_wk (L := [some (.ref 157), some (.int v1), some (.int (0 : Int32)), some (.int (v3 + (1 : Int32)))]) hb ⟨rfl, ⟨rfl, ⟨rfl, ⟨rfl, trivial⟩⟩⟩⟩
    · rw [if_neg hc5] at h
      refine ev_zff rfl (cn_f hc5) ?_
      refine ev_rn (n := 9) (i2 := 29) (L2 := [some (.ref 157), some (.int v1), some (.int v2), some (.int v3)]) (st2 := [.int (4 : Int32), .long (g.2 157 16), .int ((62 : Int32) + v3), .ref 157, .long v1.toInt64]) (g2 := g) cdE_245 rfl ?_
      obtain ⟨q6, hq6, h⟩ := Option.bind_eq_some_iff.mp h
      refine ev_call rfl cdE_131 rfl rfl rfl (e_Mo_told ((62 : Int32) + v3) (g.2 157 16) (4 : Int32)  g hq6) ?_
      by_cases hd8 : q6 = 0
      · rw [if_pos hd8] at h
        cases h
      · rw [if_neg hd8] at h
        refine ev_lrem rfl hd8 ?_
        refine ev_rn (n := 2) (i2 := 33) (L2 := [some (.ref 157), some (.int v1), some (.int v2), some (.int v3)]) (st2 := [.int (lg_cmp (v1.toInt64 - v1.toInt64 / q6 * q6) (0 : Int64))]) (g2 := g) cdE_245 rfl ?_
        by_cases hc7 : (v1.toInt64 - v1.toInt64 / q6 * q6) = (0 : Int64)
        · rw [if_pos hc7] at h
          refine ev_zff rfl (lc_ne_f hc7) ?_
          refine ev_rn (n := 4) (i2 := 39) (L2 := [some (.ref 157), some (.int v1), some (.int (1 : Int32)), some (.int (v3 + (1 : Int32)))]) (st2 := []) (g2 := g) cdE_245 rfl ?_
          refine ev_rn (n := 1) (i2 := 14) (L2 := [some (.ref 157), some (.int v1), some (.int (1 : Int32)), some (.int (v3 + (1 : Int32)))]) (st2 := []) (g2 := g) cdE_245 rfl ?_
          cases h
          exact ev_wk (L := [some (.ref 157), some (.int v1), some (.int (1 : Int32)), some (.int (v3 + (1 : Int32)))]) hb ⟨rfl, ⟨rfl, ⟨rfl, ⟨rfl, trivial⟩⟩⟩⟩
        · rw [if_neg hc7] at h
          refine ev_zft cdE_245 rfl (lc_ne_t hc7) ?_
          refine ev_rn (n := 3) (i2 := 39) (L2 := [some (.ref 157), some (.int v1), some (.int (0 : Int32)), some (.int (v3 + (1 : Int32)))]) (st2 := []) (g2 := g) cdE_245 rfl ?_
          refine ev_rn (n := 1) (i2 := 14) (L2 := [some (.ref 157), some (.int v1), some (.int (0 : Int32)), some (.int (v3 + (1 : Int32)))]) (st2 := []) (g2 := g) cdE_245 rfl ?_
          cases h
          exact ev_wk (L := [some (.ref 157), some (.int v1), some (.int (0 : Int32)), some (.int (v3 + (1 : Int32)))]) hb ⟨rfl, ⟨rfl, ⟨rfl, ⟨rfl, trivial⟩⟩⟩⟩
def b_Mo_exactly_7  (v1 : Int32) (g : M2) : Option (Int32 ⊕ (Unit ⊕ (Int32 × M2))) := (if (99 : Int32) < v1 then some (.inr (.inl ())) else ((lp (fun s => b_Mo_exactly_14 v1 s.1 s.2 g) 5000 ((1 : Int32), (0 : Int32))).bind fun e9 => (if e9 = 0 then some (.inl (v1 + (1 : Int32))) else some (.inr (.inr (v1, g))))))
theorem tb_Mo_exactly_7 {Lx : Nat}   (v1 : Int32) (g : M2) {b : Int32 ⊕ (Unit ⊕ (Int32 × M2))} {o : Option Value × M2} (h : b_Mo_exactly_7 v1 g = some b) (hb : Sum.elim (fun s => Ev Lx 245 cd_245 7 [some (.ref 157), some (.int s)] [] g o) (Sum.elim (fun e => Ev Lx 245 cd_245 46 [] [] g o) (fun r => o = (some (.int r.1), r.2))) b) : Ev Lx 245 cd_245 7 [some (.ref 157), some (.int v1)] [] g o := by
  unfold b_Mo_exactly_7 at h
  refine ev_rn (n := 2) (i2 := 9) (L2 := [some (.ref 157), some (.int v1)]) (st2 := [.int (99 : Int32), .int v1]) (g2 := g) cdE_245 rfl ?_
  by_cases hc3 : (99 : Int32) < v1
  · rw [if_pos hc3] at h
    refine ev_ift cdE_245 rfl (cn_t hc3) ?_
    cases h
    exact ev_wk (L := []) hb trivial
  · rw [if_neg hc3] at h
    refine ev_iff rfl (cn_f hc3) ?_
    refine ev_rn (n := 4) (i2 := 14) (L2 := [some (.ref 157), some (.int v1), some (.int (1 : Int32)), some (.int (0 : Int32))]) (st2 := []) (g2 := g) cdE_245 rfl ?_
    obtain ⟨e9, he9, h⟩ := Option.bind_eq_some_iff.mp h
    have hX11 : Ev Lx 245 cd_245 40 [some (.ref 157), some (.int v1), some (.int e9)] [] g o := by
      refine ev_rn (n := 1) (i2 := 41) (L2 := [some (.ref 157), some (.int v1), some (.int e9)]) (st2 := [.int e9]) (g2 := g) cdE_245 rfl ?_
      by_cases hc10 : e9 = 0
      · rw [if_pos hc10] at h
        refine ev_zft cdE_245 rfl (cn_t hc10) ?_
        refine ev_rn (n := 2) (i2 := 7) (L2 := [some (.ref 157), some (.int (v1 + (1 : Int32))), some (.int e9)]) (st2 := []) (g2 := g) cdE_245 rfl ?_
        cases h
        exact ev_wk (L := [some (.ref 157), some (.int (v1 + (1 : Int32)))]) hb ⟨rfl, ⟨rfl, trivial⟩⟩
      · rw [if_neg hc10] at h
        refine ev_zff rfl (cn_f hc10) ?_
        refine ev_rn (n := 1) (i2 := 43) (L2 := [some (.ref 157), some (.int v1), some (.int e9)]) (st2 := [.int v1]) (g2 := g) cdE_245 rfl ?_
        cases h
        cases hb
        exact ev_ret rfl rfl
    exact ev_wk (L := [some (.ref 157), some (.int v1), some (.int (1 : Int32)), some (.int (0 : Int32))]) (lp_ind (P := (fun (s : (Int32 × Int32)) => Ev Lx 245 cd_245 14 [some (.ref 157), some (.int v1), some (.int s.1), some (.int s.2)] [] g o)) (fun s s2 hs hP => tb_Mo_exactly_14 v1  s.1 s.2 g (b := .inl s2) hs hP) (fun s hs => tb_Mo_exactly_14 v1  s.1 s.2 g (b := .inr e9) hs hX11) _ _ he9) ⟨rfl, ⟨rfl, ⟨rfl, ⟨rfl, trivial⟩⟩⟩⟩
def f_Mo_exactly  (g : M2) : Option (Int32 × M2) := ((f_Mo_canNow g).bind fun q1 => (if q1.1 = 0 then some ((-2 : Int32), q1.2) else ((lp (fun s => b_Mo_exactly_7  s q1.2) 5000 (1 : Int32)).bind fun ue12 => Sum.elim (fun e12 => some ((-1 : Int32), q1.2)) (fun re12 => some re12) ue12)))
theorem e_Mo_exactly {Lx : Nat}   (g : M2) {b : (Int32 × M2)} (h : f_Mo_exactly  g = some b) : Ev Lx 245 cd_245 0 [some (.ref 157)] [] g (some (.int b.1), b.2) := by
  unfold f_Mo_exactly at h
  refine ev_rn (n := 1) (i2 := 1) (L2 := [some (.ref 157)]) (st2 := [.ref 157]) (g2 := g) cdE_245 rfl ?_
  obtain ⟨q1, hq1, h⟩ := Option.bind_eq_some_iff.mp h
  refine ev_call rfl cdE_118 rfl rfl rfl (e_Mo_canNow   g hq1) ?_
  by_cases hc2 : q1.1 = 0
  · rw [if_pos hc2] at h
    refine ev_zff rfl (cn_f (fun q => q hc2)) ?_
    refine ev_rn (n := 1) (i2 := 4) (L2 := [some (.ref 157)]) (st2 := [.int (-2 : Int32)]) (g2 := q1.2) cdE_245 rfl ?_
    cases h
    exact ev_ret rfl rfl
  · rw [if_neg hc2] at h
    refine ev_zft cdE_245 rfl (cn_t hc2) ?_
    refine ev_rn (n := 2) (i2 := 7) (L2 := [some (.ref 157), some (.int (1 : Int32))]) (st2 := []) (g2 := q1.2) cdE_245 rfl ?_
    obtain ⟨ue12, he12, h⟩ := Option.bind_eq_some_iff.mp h
    cases ue12 with
    | inl e12 =>
      replace h := h
      have hX13 : Ev Lx 245 cd_245 46 [] [] q1.2 (some (.int b.1), b.2) := by
        simp only [Sum.elim_inl] at h
        refine ev_rn (n := 1) (i2 := 47) (L2 := []) (st2 := [.int (-1 : Int32)]) (g2 := q1.2) cdE_245 rfl ?_
        cases h
        exact ev_ret rfl rfl
      exact ev_wk (L := [some (.ref 157), some (.int (1 : Int32))]) (lp_ind (P := (fun (s : Int32) => Ev Lx 245 cd_245 7 [some (.ref 157), some (.int s)] [] q1.2 (some (.int b.1), b.2))) (fun s s2 hs hP => tb_Mo_exactly_7   s q1.2 (b := .inl s2) hs hP) (fun s hs => tb_Mo_exactly_7   s q1.2 (b := .inr (.inl e12)) hs hX13) _ _ he12) ⟨rfl, ⟨rfl, trivial⟩⟩
    | inr re12 =>
      simp only [Sum.elim_inr] at h
      cases h
      exact ev_wk (L := [some (.ref 157), some (.int (1 : Int32))]) (lp_ind (P := (fun (s : Int32) => Ev Lx 245 cd_245 7 [some (.ref 157), some (.int s)] [] q1.2 (some (.int b.1), b.2))) (fun s s2 hs hP => tb_Mo_exactly_7   s q1.2 (b := .inl s2) hs hP) (fun s hs => tb_Mo_exactly_7   s q1.2 (b := .inr (.inr b)) hs rfl) _ _ he12) ⟨rfl, ⟨rfl, trivial⟩⟩
def b_Cu_takeStep_2 (v1 : Nat) (v2 : Int32) (g : M2) : Option ((Int32 × M2) ⊕ M2) := (if (g.1 v1 5) ≤ v2 then some (.inr g) else (if inb v2 4 then ((f_Cu_rootOfStep v1 v2 (g.1 138 5) (g.1 138 6) (g.1 138 7) g).bind fun q3 => ((f_Nu_addRoot (145 + 1 + v2.toNatClampNeg) q3 g).bind fun q4 => some (.inl ((v2 + (1 : Int32)), q4)))) else none))
theorem tb_Cu_takeStep_2 {Lx : Nat} (v1 : Nat) (hv1 : IsPlan v1) (v2 : Int32) (g : M2) {b : (Int32 × M2) ⊕ M2} {o : Option Value × M2} (h : b_Cu_takeStep_2 v1 v2 g = some b) (hb : Sum.elim (fun s => Ev Lx 246 cd_246 2 [some (.ref 138), some (.ref v1), some (.int s.1)] [] s.2 o) (fun e => Ev Lx 246 cd_246 22 [some (.ref 138)] [] e o) b) : Ev Lx 246 cd_246 2 [some (.ref 138), some (.ref v1), some (.int v2)] [] g o := by
  unfold b_Cu_takeStep_2 at h
  refine ev_rn (n := 2) (i2 := 4) (L2 := [some (.ref 138), some (.ref v1), some (.int v2)]) (st2 := [.ref v1, .int v2]) (g2 := g) cdE_246 rfl ?_
  refine ev_gf (v := .int (g.1 v1 5)) rfl (pl_at hv1) (by decide) rfl ?_
  by_cases hc1 : (g.1 v1 5) ≤ v2
  · rw [if_pos hc1] at h
    refine ev_ift cdE_246 rfl (cn_t hc1) ?_
    cases h
    exact ev_wk (L := [some (.ref 138)]) hb ⟨rfl, trivial⟩
  · rw [if_neg hc1] at h
    refine ev_iff rfl (cn_f hc1) ?_
    refine ev_rn (n := 3) (i2 := 9) (L2 := [some (.ref 138), some (.ref v1), some (.int v2)]) (st2 := [.int v2, .ref 145]) (g2 := g) cdE_246 rfl ?_
    by_cases hi2 : inb v2 4
    · rw [if_pos hi2] at h
      refine ev_aaload (v := .ref (145 + 1 + v2.toNatClampNeg)) rfl (kd_of (na_at (na_145))) (by decide) hi2 (na_rf (w := 145) hi2.2) ?_
      refine ev_rn (n := 8) (i2 := 18) (L2 := [some (.ref 138), some (.ref v1), some (.int v2)]) (st2 := [.int (g.1 138 7), .int (g.1 138 6), .int (g.1 138 5), .int v2, .ref v1, .ref (145 + 1 + v2.toNatClampNeg)]) (g2 := g) cdE_246 rfl ?_
      obtain ⟨q3, hq3, h⟩ := Option.bind_eq_some_iff.mp h
      refine ev_call rfl cdE_236 rfl rfl rfl (e_Cu_rootOfStep v1 v2 (g.1 138 5) (g.1 138 6) (g.1 138 7) hv1 g hq3) ?_
      obtain ⟨q4, hq4, h⟩ := Option.bind_eq_some_iff.mp h
      refine ev_call rfl cdE_77 (cokV rfl rfl (na_el (na_145) hi2.2) rfl) rfl rfl (e_Nu_addRoot (145 + 1 + v2.toNatClampNeg) q3 (na_el (na_145) hi2.2) g hq4) ?_
      refine ev_rn (n := 2) (i2 := 2) (L2 := [some (.ref 138), some (.ref v1), some (.int (v2 + (1 : Int32)))]) (st2 := []) (g2 := q4) cdE_246 rfl ?_
      cases h
      exact ev_wk (L := [some (.ref 138), some (.ref v1), some (.int (v2 + (1 : Int32)))]) hb ⟨rfl, ⟨rfl, ⟨rfl, trivial⟩⟩⟩
    · rw [if_neg hi2] at h
      cases h
def f_Cu_takeStep (p0 : Nat) (g : M2) : Option (M2) := ((lp (fun s => b_Cu_takeStep_2 p0 s.1 s.2) 5000 ((0 : Int32), g)).bind fun e5 => (bd (uJ e5 138 3 (e5.2 138 8)) fun g6 => (bd (uJ g6 138 4 (g6.2 138 9)) fun g7 => some g7)))
theorem e_Cu_takeStep {Lx : Nat} (p0 : Nat) (hp0 : IsPlan p0) (g : M2) {b : M2} (h : f_Cu_takeStep p0 g = some b) : Ev Lx 246 cd_246 0 [some (.ref 138), some (.ref p0)] [] g (none, b) := by
  unfold f_Cu_takeStep at h
  refine ev_rn (n := 2) (i2 := 2) (L2 := [some (.ref 138), some (.ref p0), some (.int (0 : Int32))]) (st2 := []) (g2 := g) cdE_246 rfl ?_
  obtain ⟨e5, he5, h⟩ := Option.bind_eq_some_iff.mp h
  have hX8 : Ev Lx 246 cd_246 22 [some (.ref 138)] [] e5 (none, b) := by
    refine ev_rn (n := 3) (i2 := 25) (L2 := [some (.ref 138)]) (st2 := [.long (e5.2 138 8), .ref 138]) (g2 := e5) cdE_246 rfl ?_
    refine bd_elim h (fun g6 hg6 h => ?_)
    refine ev_pf (g2 := g6) rfl (rfl : S0[138]? = some _) (by decide) (by rw [hg6] <;> rfl) ?_
    refine ev_rn (n := 3) (i2 := 29) (L2 := [some (.ref 138)]) (st2 := [.long (g6.2 138 9), .ref 138]) (g2 := g6) cdE_246 rfl ?_
    refine bd_elim h (fun g7 hg7 h => ?_)
    refine ev_pf (g2 := g7) rfl (rfl : S0[138]? = some _) (by decide) (by rw [hg7] <;> rfl) ?_
    cases h
    exact ev_ret rfl rfl
  exact ev_wk (L := [some (.ref 138), some (.ref p0), some (.int (0 : Int32))]) (lp_ind (P := (fun (s : (Int32 × M2)) => Ev Lx 246 cd_246 2 [some (.ref 138), some (.ref p0), some (.int s.1)] [] s.2 (none, b))) (fun s s2 hs hP => tb_Cu_takeStep_2 p0 hp0 s.1 s.2 (b := .inl s2) hs hP) (fun s hs => tb_Cu_takeStep_2 p0 hp0 s.1 s.2 (b := .inr e5) hs hX8) _ _ he5) ⟨rfl, ⟨rfl, ⟨rfl, trivial⟩⟩⟩
def b_Da_polish_34 (v1 : Int32) (v2 : Int32) (v3 : Int32) (g : M2) : Option ((Int32 × M2) ⊕ (Int32 × M2)) := (if v1 ≤ v3 then some (.inr (v3, g)) else ((f_Cu_seekStep 7 g).bind fun q9 => (if q9.1 = 0 then some (.inr (v3, q9.2)) else ((f_Cu_takeStep 7 q9.2).bind fun q11 => some (.inl ((v3 + (1 : Int32)), q11))))))
theorem tb_Da_polish_34 {Lx : Nat} (v1 : Int32) (v2 : Int32)  (v3 : Int32) (g : M2) {b : (Int32 × M2) ⊕ (Int32 × M2)} {o : Option Value × M2} (h : b_Da_polish_34 v1 v2 v3 g = some b) (hb : Sum.elim (fun s => Ev Lx 247 cd_247 34 [some (.ref 0), some (.int v1), some (.int v2), some (.int s.1)] [] s.2 o) (fun e => Ev Lx 247 cd_247 52 [some (.ref 0), none, some (.int v2), some (.int e.1)] [] e.2 o) b) : Ev Lx 247 cd_247 34 [some (.ref 0), some (.int v1), some (.int v2), some (.int v3)] [] g o := by
  unfold b_Da_polish_34 at h
  refine ev_rn (n := 2) (i2 := 36) (L2 := [some (.ref 0), some (.int v1), some (.int v2), some (.int v3)]) (st2 := [.int v1, .int v3]) (g2 := g) cdE_247 rfl ?_
  by_cases hc8 : v1 ≤ v3
  · rw [if_pos hc8] at h
    refine ev_ift cdE_247 rfl (cn_t hc8) ?_
    cases h
    exact ev_wk (L := [some (.ref 0), none, some (.int v2), some (.int v3)]) hb ⟨rfl, ⟨rfl, ⟨rfl, trivial⟩⟩⟩
  · rw [if_neg hc8] at h
    refine ev_iff rfl (cn_f hc8) ?_
    refine ev_rn (n := 5) (i2 := 42) (L2 := [some (.ref 0), some (.int v1), some (.int v2), some (.int v3)]) (st2 := [.ref 7, .ref 138]) (g2 := g) cdE_247 rfl ?_
    obtain ⟨q9, hq9, h⟩ := Option.bind_eq_some_iff.mp h
    refine ev_call rfl cdE_238 rfl rfl rfl (e_Cu_seekStep 7 (by decide) g hq9) ?_
    by_cases hc10 : q9.1 = 0
    · rw [if_pos hc10] at h
      refine ev_zft cdE_247 rfl (cn_t hc10) ?_
      cases h
      exact ev_wk (L := [some (.ref 0), none, some (.int v2), some (.int v3)]) hb ⟨rfl, ⟨rfl, ⟨rfl, trivial⟩⟩⟩
    · rw [if_neg hc10] at h
      refine ev_zff rfl (cn_f hc10) ?_
      refine ev_rn (n := 5) (i2 := 49) (L2 := [some (.ref 0), some (.int v1), some (.int v2), some (.int v3)]) (st2 := [.ref 7, .ref 138]) (g2 := q9.2) cdE_247 rfl ?_
      obtain ⟨q11, hq11, h⟩ := Option.bind_eq_some_iff.mp h
      refine ev_call rfl cdE_246 rfl rfl rfl (e_Cu_takeStep 7 (by decide) q9.2 hq11) ?_
      refine ev_rn (n := 2) (i2 := 34) (L2 := [some (.ref 0), some (.int v1), some (.int v2), some (.int (v3 + (1 : Int32)))]) (st2 := []) (g2 := q11) cdE_247 rfl ?_
      cases h
      exact ev_wk (L := [some (.ref 0), some (.int v1), some (.int v2), some (.int (v3 + (1 : Int32)))]) hb ⟨rfl, ⟨rfl, ⟨rfl, ⟨rfl, trivial⟩⟩⟩⟩
def j_Da_polish_52 (v2 : Int32) (v3 : Int32) (g : M2) : Option (Int64 × M2) := (if v2 = 0 then some (v3.toInt64, g) else (if v2 = (1 : Int32) then some ((g.2 138 3), g) else some ((g.2 138 4), g)))
theorem tj_Da_polish_52 {Lx : Nat}  (v2 : Int32) (v3 : Int32)  (g : M2) {b : (Int64 × M2)} (h : j_Da_polish_52 v2 v3 g = some b) : Ev Lx 247 cd_247 52 [some (.ref 0), none, some (.int v2), some (.int v3)] [] g (some (.long b.1), b.2) := by
  unfold j_Da_polish_52 at h
  refine ev_rn (n := 1) (i2 := 53) (L2 := [some (.ref 0), none, some (.int v2), some (.int v3)]) (st2 := [.int v2]) (g2 := g) cdE_247 rfl ?_
  by_cases hc13 : v2 = 0
  · rw [if_pos hc13] at h
    refine ev_zff rfl (cn_f (fun q => q hc13)) ?_
    refine ev_rn (n := 2) (i2 := 56) (L2 := [some (.ref 0), none, some (.int v2), some (.int v3)]) (st2 := [.long v3.toInt64]) (g2 := g) cdE_247 rfl ?_
    cases h
    exact ev_ret rfl rfl
  · rw [if_neg hc13] at h
    refine ev_zft cdE_247 rfl (cn_t hc13) ?_
    refine ev_rn (n := 2) (i2 := 59) (L2 := [some (.ref 0), none, some (.int v2), some (.int v3)]) (st2 := [.int (1 : Int32), .int v2]) (g2 := g) cdE_247 rfl ?_
    by_cases hc14 : v2 = (1 : Int32)
    · rw [if_pos hc14] at h
      refine ev_iff rfl (cn_f (fun q => q hc14)) ?_
      refine ev_rn (n := 4) (i2 := 67) (L2 := [some (.ref 0), none, some (.int v2), some (.int v3)]) (st2 := [.long (g.2 138 3)]) (g2 := g) cdE_247 rfl ?_
      cases h
      exact ev_ret rfl rfl
    · rw [if_neg hc14] at h
      refine ev_ift cdE_247 rfl (cn_t hc14) ?_
      refine ev_rn (n := 3) (i2 := 67) (L2 := [some (.ref 0), none, some (.int v2), some (.int v3)]) (st2 := [.long (g.2 138 4)]) (g2 := g) cdE_247 rfl ?_
      cases h
      exact ev_ret rfl rfl
def f_Da_polish (p0 : Int32) (p1 : Int32) (g : M2) : Option (Int64 × M2) := ((f_Da_refresh g).bind fun q1 => (if (q1.1 6 13) = 0 then some ((-9223372036854775808 : Int64), q1) else (if p0 < (1 : Int32) then some ((-9223372036854775808 : Int64), q1) else (if (20 : Int32) < p0 then some ((-9223372036854775808 : Int64), q1) else (if (f_Da_isAmong p1 (3 : Int32) q1) = 0 then some ((-9223372036854775808 : Int64), q1) else ((f_Cu_roundAll 6 (q1.1 7 6) q1).bind fun q6 => ((f_Cu_hearDeaf 6 q6).bind fun q7 => ((lp (fun s => b_Da_polish_34 p0 p1 s.1 s.2) 5000 ((0 : Int32), q7)).bind fun e12 => (j_Da_polish_52 p1 e12.1 e12.2)))))))))
theorem e_Da_polish {Lx : Nat} (p0 : Int32) (p1 : Int32)  (g : M2) {b : (Int64 × M2)} (h : f_Da_polish p0 p1 g = some b) : Ev Lx 247 cd_247 0 [some (.ref 0), some (.int p0), some (.int p1)] [] g (some (.long b.1), b.2) := by
  unfold f_Da_polish at h
  refine ev_rn (n := 1) (i2 := 1) (L2 := [some (.ref 0), some (.int p0), some (.int p1)]) (st2 := [.ref 0]) (g2 := g) cdE_247 rfl ?_
  obtain ⟨q1, hq1, h⟩ := Option.bind_eq_some_iff.mp h
  refine ev_call rfl cdE_100 rfl rfl rfl (e_Da_refresh   g hq1) ?_
  refine ev_rn (n := 3) (i2 := 5) (L2 := [some (.ref 0), some (.int p0), some (.int p1)]) (st2 := [.int (q1.1 6 13)]) (g2 := q1) cdE_247 rfl ?_
  by_cases hc2 : (q1.1 6 13) = 0
  · rw [if_pos hc2] at h
    refine ev_zft cdE_247 rfl (cn_t hc2) ?_
    refine ev_rn (n := 1) (i2 := 17) (L2 := [some (.ref 0), some (.int p0), some (.int p1)]) (st2 := [.long (-9223372036854775808 : Int64)]) (g2 := q1) cdE_247 rfl ?_
    cases h
    exact ev_ret rfl rfl
  · rw [if_neg hc2] at h
    refine ev_zff rfl (cn_f hc2) ?_
    refine ev_rn (n := 2) (i2 := 8) (L2 := [some (.ref 0), some (.int p0), some (.int p1)]) (st2 := [.int (1 : Int32), .int p0]) (g2 := q1) cdE_247 rfl ?_
    by_cases hc3 : p0 < (1 : Int32)
    · rw [if_pos hc3] at h
      refine ev_ift cdE_247 rfl (cn_t hc3) ?_
      refine ev_rn (n := 1) (i2 := 17) (L2 := [some (.ref 0), some (.int p0), some (.int p1)]) (st2 := [.long (-9223372036854775808 : Int64)]) (g2 := q1) cdE_247 rfl ?_
      cases h
      exact ev_ret rfl rfl
    · rw [if_neg hc3] at h
      refine ev_iff rfl (cn_f hc3) ?_
      refine ev_rn (n := 2) (i2 := 11) (L2 := [some (.ref 0), some (.int p0), some (.int p1)]) (st2 := [.int (20 : Int32), .int p0]) (g2 := q1) cdE_247 rfl ?_
      by_cases hc4 : (20 : Int32) < p0
      · rw [if_pos hc4] at h
        refine ev_ift cdE_247 rfl (cn_t hc4) ?_
        refine ev_rn (n := 1) (i2 := 17) (L2 := [some (.ref 0), some (.int p0), some (.int p1)]) (st2 := [.long (-9223372036854775808 : Int64)]) (g2 := q1) cdE_247 rfl ?_
        cases h
        exact ev_ret rfl rfl
      · rw [if_neg hc4] at h
        refine ev_iff rfl (cn_f hc4) ?_
        refine ev_rn (n := 2) (i2 := 14) (L2 := [some (.ref 0), some (.int p0), some (.int p1)]) (st2 := [.int (3 : Int32), .int p1]) (g2 := q1) cdE_247 rfl ?_
        refine ev_call rfl cdE_65 rfl rfl rfl (e_Da_isAmong p1 (3 : Int32)  q1 rfl) ?_
        by_cases hc5 : (f_Da_isAmong p1 (3 : Int32) q1) = 0
        · rw [if_pos hc5] at h
          refine ev_zff rfl (cn_f (fun q => q hc5)) ?_
          refine ev_rn (n := 1) (i2 := 17) (L2 := [some (.ref 0), some (.int p0), some (.int p1)]) (st2 := [.long (-9223372036854775808 : Int64)]) (g2 := q1) cdE_247 rfl ?_
          cases h
          exact ev_ret rfl rfl
        · rw [if_neg hc5] at h
          refine ev_zft cdE_247 rfl (cn_t hc5) ?_
          refine ev_rn (n := 8) (i2 := 26) (L2 := [some (.ref 0), some (.int p0), some (.int p1)]) (st2 := [.int (q1.1 7 6), .ref 6, .ref 138]) (g2 := q1) cdE_247 rfl ?_
          obtain ⟨q6, hq6, h⟩ := Option.bind_eq_some_iff.mp h
          refine ev_call rfl cdE_212 rfl rfl rfl (e_Cu_roundAll 6 (q1.1 7 6) (by decide) q1 hq6) ?_
          refine ev_rn (n := 4) (i2 := 31) (L2 := [some (.ref 0), some (.int p0), some (.int p1)]) (st2 := [.ref 6, .ref 138]) (g2 := q6) cdE_247 rfl ?_
          obtain ⟨q7, hq7, h⟩ := Option.bind_eq_some_iff.mp h
          refine ev_call rfl cdE_235 rfl rfl rfl (e_Cu_hearDeaf 6 (by decide) q6 hq7) ?_
          refine ev_rn (n := 2) (i2 := 34) (L2 := [some (.ref 0), some (.int p0), some (.int p1), some (.int (0 : Int32))]) (st2 := []) (g2 := q7) cdE_247 rfl ?_
          obtain ⟨e12, he12, h⟩ := Option.bind_eq_some_iff.mp h
          have hX15 : Ev Lx 247 cd_247 52 [some (.ref 0), none, some (.int p1), some (.int e12.1)] [] e12.2 (some (.long b.1), b.2) := by
            exact ev_wk (L := [some (.ref 0), none, some (.int p1), some (.int e12.1)]) (tj_Da_polish_52  p1 e12.1  e12.2 h) ⟨rfl, ⟨rfl, ⟨rfl, trivial⟩⟩⟩
          exact ev_wk (L := [some (.ref 0), some (.int p0), some (.int p1), some (.int (0 : Int32))]) (lp_ind (P := (fun (s : (Int32 × M2)) => Ev Lx 247 cd_247 34 [some (.ref 0), some (.int p0), some (.int p1), some (.int s.1)] [] s.2 (some (.long b.1), b.2))) (fun s s2 hs hP => tb_Da_polish_34 p0 p1  s.1 s.2 (b := .inl s2) hs hP) (fun s hs => tb_Da_polish_34 p0 p1  s.1 s.2 (b := .inr e12) hs hX15) _ _ he12) ⟨rfl, ⟨rfl, ⟨rfl, ⟨rfl, trivial⟩⟩⟩⟩
def b_Mo_polish_22 (v1 : Int32) (v2 : Int32) (v3 : Int32) (v4 : Int32) (g : M2) : Option ((Int32 × Int32 × M2) ⊕ (Int32 × M2)) := (if v4 = (-1 : Int32) then some (.inr (v3, g)) else (if v1 ≤ v3 then some (.inr (v3, g)) else (if inb (((4 : Int32) * ((82 : Int32) + (v4 / (8 : Int32)))) + ((v4 / (2 : Int32)) - (v4 / (2 : Int32)) / (4 : Int32) * (4 : Int32))) 352 then (if (v4 - v4 / (2 : Int32) * (2 : Int32)) = 0 then (if inb (((4 : Int32) * ((82 : Int32) + (v4 / (8 : Int32)))) + ((v4 / (2 : Int32)) - (v4 / (2 : Int32)) / (4 : Int32) * (4 : Int32))) 352 then (bd (uJ g 158 (((4 : Int32) * ((82 : Int32) + (v4 / (8 : Int32)))) + ((v4 / (2 : Int32)) - (v4 / (2 : Int32)) / (4 : Int32) * (4 : Int32))).toNatClampNeg ((g.2 158 (((4 : Int32) * ((82 : Int32) + (v4 / (8 : Int32)))) + ((v4 / (2 : Int32)) - (v4 / (2 : Int32)) / (4 : Int32) * (4 : Int32))).toNatClampNeg) + (1 : Int64))) fun g13 => ((f_Mo_bestStep g13).bind fun q14 => some (.inl ((v3 + (1 : Int32)), q14.1, q14.2)))) else none) else (if inb (((4 : Int32) * ((82 : Int32) + (v4 / (8 : Int32)))) + ((v4 / (2 : Int32)) - (v4 / (2 : Int32)) / (4 : Int32) * (4 : Int32))) 352 then (bd (uJ g 158 (((4 : Int32) * ((82 : Int32) + (v4 / (8 : Int32)))) + ((v4 / (2 : Int32)) - (v4 / (2 : Int32)) / (4 : Int32) * (4 : Int32))).toNatClampNeg ((g.2 158 (((4 : Int32) * ((82 : Int32) + (v4 / (8 : Int32)))) + ((v4 / (2 : Int32)) - (v4 / (2 : Int32)) / (4 : Int32) * (4 : Int32))).toNatClampNeg) + (-1 : Int64))) fun g10 => ((f_Mo_bestStep g10).bind fun q11 => some (.inl ((v3 + (1 : Int32)), q11.1, q11.2)))) else none)) else none)))
theorem tb_Mo_polish_22 {Lx : Nat} (v1 : Int32) (v2 : Int32)  (v3 : Int32) (v4 : Int32) (g : M2) {b : (Int32 × Int32 × M2) ⊕ (Int32 × M2)} {o : Option Value × M2} (h : b_Mo_polish_22 v1 v2 v3 v4 g = some b) (hb : Sum.elim (fun s => Ev Lx 248 cd_248 22 [some (.ref 157), some (.int v1), some (.int v2), some (.int s.1), some (.int s.2.1)] [] s.2.2 o) (fun e => Ev Lx 248 cd_248 59 [some (.ref 157), none, some (.int v2), some (.int e.1)] [] e.2 o) b) : Ev Lx 248 cd_248 22 [some (.ref 157), some (.int v1), some (.int v2), some (.int v3), some (.int v4)] [] g o := by
  unfold b_Mo_polish_22 at h
  refine ev_rn (n := 2) (i2 := 24) (L2 := [some (.ref 157), some (.int v1), some (.int v2), some (.int v3), some (.int v4)]) (st2 := [.int (-1 : Int32), .int v4]) (g2 := g) cdE_248 rfl ?_
  by_cases hc6 : v4 = (-1 : Int32)
  · rw [if_pos hc6] at h
    refine ev_ift cdE_248 rfl (cn_t hc6) ?_
    cases h
    exact ev_wk (L := [some (.ref 157), none, some (.int v2), some (.int v3)]) hb ⟨rfl, ⟨rfl, ⟨rfl, trivial⟩⟩⟩
  · rw [if_neg hc6] at h
    refine ev_iff rfl (cn_f hc6) ?_
    refine ev_rn (n := 2) (i2 := 27) (L2 := [some (.ref 157), some (.int v1), some (.int v2), some (.int v3), some (.int v4)]) (st2 := [.int v1, .int v3]) (g2 := g) cdE_248 rfl ?_
    by_cases hc7 : v1 ≤ v3
    · rw [if_pos hc7] at h
      refine ev_ift cdE_248 rfl (cn_t hc7) ?_
      cases h
      exact ev_wk (L := [some (.ref 157), none, some (.int v2), some (.int v3)]) hb ⟨rfl, ⟨rfl, ⟨rfl, trivial⟩⟩⟩
    · rw [if_neg hc7] at h
      refine ev_iff rfl (cn_f hc7) ?_
      refine ev_rn (n := 6) (i2 := 34) (L2 := [some (.ref 157), some (.int v1), some (.int v2), some (.int v3), some (.int v4)]) (st2 := [.int (8 : Int32), .int v4, .int (82 : Int32), .int (4 : Int32), .ref 158]) (g2 := g) cdE_248 rfl ?_
      refine ev_idiv rfl (by decide) ?_
      refine ev_rn (n := 4) (i2 := 39) (L2 := [some (.ref 157), some (.int v1), some (.int v2), some (.int v3), some (.int v4)]) (st2 := [.int (2 : Int32), .int v4, .int ((4 : Int32) * ((82 : Int32) + (v4 / (8 : Int32)))), .ref 158]) (g2 := g) cdE_248 rfl ?_
      refine ev_idiv rfl (by decide) ?_
      refine ev_rn (n := 1) (i2 := 41) (L2 := [some (.ref 157), some (.int v1), some (.int v2), some (.int v3), some (.int v4)]) (st2 := [.int (4 : Int32), .int (v4 / (2 : Int32)), .int ((4 : Int32) * ((82 : Int32) + (v4 / (8 : Int32)))), .ref 158]) (g2 := g) cdE_248 rfl ?_
      refine ev_irem rfl (by decide) ?_
      refine ev_rn (n := 2) (i2 := 44) (L2 := [some (.ref 157), some (.int v1), some (.int v2), some (.int v3), some (.int v4)]) (st2 := [.int (((4 : Int32) * ((82 : Int32) + (v4 / (8 : Int32)))) + ((v4 / (2 : Int32)) - (v4 / (2 : Int32)) / (4 : Int32) * (4 : Int32))), .ref 158, .int (((4 : Int32) * ((82 : Int32) + (v4 / (8 : Int32)))) + ((v4 / (2 : Int32)) - (v4 / (2 : Int32)) / (4 : Int32) * (4 : Int32))), .ref 158]) (g2 := g) cdE_248 rfl ?_
      by_cases hi8 : inb (((4 : Int32) * ((82 : Int32) + (v4 / (8 : Int32)))) + ((v4 / (2 : Int32)) - (v4 / (2 : Int32)) / (4 : Int32) * (4 : Int32))) 352
      · rw [if_pos hi8] at h
        refine ev_laload (v := .long (g.2 158 (((4 : Int32) * ((82 : Int32) + (v4 / (8 : Int32)))) + ((v4 / (2 : Int32)) - (v4 / (2 : Int32)) / (4 : Int32) * (4 : Int32))).toNatClampNeg)) rfl (kd_of (show S0[158]? = some (101, 352, List.replicate 352 none) from rfl)) (by decide) hi8 rfl ?_
        refine ev_rn (n := 2) (i2 := 47) (L2 := [some (.ref 157), some (.int v1), some (.int v2), some (.int v3), some (.int v4)]) (st2 := [.int (2 : Int32), .int v4, .long (g.2 158 (((4 : Int32) * ((82 : Int32) + (v4 / (8 : Int32)))) + ((v4 / (2 : Int32)) - (v4 / (2 : Int32)) / (4 : Int32) * (4 : Int32))).toNatClampNeg), .int (((4 : Int32) * ((82 : Int32) + (v4 / (8 : Int32)))) + ((v4 / (2 : Int32)) - (v4 / (2 : Int32)) / (4 : Int32) * (4 : Int32))), .ref 158]) (g2 := g) cdE_248 rfl ?_
        refine ev_irem rfl (by decide) ?_
        by_cases hc9 : (v4 - v4 / (2 : Int32) * (2 : Int32)) = 0
        · rw [if_pos hc9] at h
          refine ev_zff rfl (cn_f (fun q => q hc9)) ?_
          refine ev_rn (n := 3) (i2 := 53) (L2 := [some (.ref 157), some (.int v1), some (.int v2), some (.int v3), some (.int v4)]) (st2 := [.long ((g.2 158 (((4 : Int32) * ((82 : Int32) + (v4 / (8 : Int32)))) + ((v4 / (2 : Int32)) - (v4 / (2 : Int32)) / (4 : Int32) * (4 : Int32))).toNatClampNeg) + (1 : Int64)), .int (((4 : Int32) * ((82 : Int32) + (v4 / (8 : Int32)))) + ((v4 / (2 : Int32)) - (v4 / (2 : Int32)) / (4 : Int32) * (4 : Int32))), .ref 158]) (g2 := g) cdE_248 rfl ?_
          by_cases hi15 : inb (((4 : Int32) * ((82 : Int32) + (v4 / (8 : Int32)))) + ((v4 / (2 : Int32)) - (v4 / (2 : Int32)) / (4 : Int32) * (4 : Int32))) 352
          · rw [if_pos hi15] at h
            refine bd_elim h (fun g13 hg13 h => ?_)
            refine ev_lastore (g2 := g13) rfl (show S0[158]? = some (101, 352, List.replicate 352 none) from rfl) (by decide) hi15 (by rw [hg13] <;> rfl) ?_
            refine ev_rn (n := 1) (i2 := 55) (L2 := [some (.ref 157), some (.int v1), some (.int v2), some (.int v3), some (.int v4)]) (st2 := [.ref 157]) (g2 := g13) cdE_248 rfl ?_
            obtain ⟨q14, hq14, h⟩ := Option.bind_eq_some_iff.mp h
            refine ev_call rfl cdE_241 rfl rfl rfl (e_Mo_bestStep   g13 hq14) ?_
            refine ev_rn (n := 2) (i2 := 58) (L2 := [some (.ref 157), some (.int v1), some (.int v2), some (.int (v3 + (1 : Int32))), some (.int q14.1)]) (st2 := []) (g2 := q14.2) cdE_248 rfl ?_
            refine ev_rn (n := 1) (i2 := 22) (L2 := [some (.ref 157), some (.int v1), some (.int v2), some (.int (v3 + (1 : Int32))), some (.int q14.1)]) (st2 := []) (g2 := q14.2) cdE_248 rfl ?_
            cases h
            exact ev_wk (L := [some (.ref 157), some (.int v1), some (.int v2), some (.int (v3 + (1 : Int32))), some (.int q14.1)]) hb ⟨rfl, ⟨rfl, ⟨rfl, ⟨rfl, ⟨rfl, trivial⟩⟩⟩⟩⟩
          · rw [if_neg hi15] at h
            cases h
        · rw [if_neg hc9] at h
          refine ev_zft cdE_248 rfl (cn_t hc9) ?_
          refine ev_rn (n := 2) (i2 := 53) (L2 := [some (.ref 157), some (.int v1), some (.int v2), some (.int v3), some (.int v4)]) (st2 := [.long ((g.2 158 (((4 : Int32) * ((82 : Int32) + (v4 / (8 : Int32)))) + ((v4 / (2 : Int32)) - (v4 / (2 : Int32)) / (4 : Int32) * (4 : Int32))).toNatClampNeg) + (-1 : Int64)), .int (((4 : Int32) * ((82 : Int32) + (v4 / (8 : Int32)))) + ((v4 / (2 : Int32)) - (v4 / (2 : Int32)) / (4 : Int32) * (4 : Int32))), .ref 158]) (g2 := g) cdE_248 rfl ?_
          by_cases hi12 : inb (((4 : Int32) * ((82 : Int32) + (v4 / (8 : Int32)))) + ((v4 / (2 : Int32)) - (v4 / (2 : Int32)) / (4 : Int32) * (4 : Int32))) 352
          · rw [if_pos hi12] at h
            refine bd_elim h (fun g10 hg10 h => ?_)
            refine ev_lastore (g2 := g10) rfl (show S0[158]? = some (101, 352, List.replicate 352 none) from rfl) (by decide) hi12 (by rw [hg10] <;> rfl) ?_
            refine ev_rn (n := 1) (i2 := 55) (L2 := [some (.ref 157), some (.int v1), some (.int v2), some (.int v3), some (.int v4)]) (st2 := [.ref 157]) (g2 := g10) cdE_248 rfl ?_
            obtain ⟨q11, hq11, h⟩ := Option.bind_eq_some_iff.mp h
            refine ev_call rfl cdE_241 rfl rfl rfl (e_Mo_bestStep   g10 hq11) ?_
            refine ev_rn (n := 2) (i2 := 58) (L2 := [some (.ref 157), some (.int v1), some (.int v2), some (.int (v3 + (1 : Int32))), some (.int q11.1)]) (st2 := []) (g2 := q11.2) cdE_248 rfl ?_
            refine ev_rn (n := 1) (i2 := 22) (L2 := [some (.ref 157), some (.int v1), some (.int v2), some (.int (v3 + (1 : Int32))), some (.int q11.1)]) (st2 := []) (g2 := q11.2) cdE_248 rfl ?_
            cases h
            exact ev_wk (L := [some (.ref 157), some (.int v1), some (.int v2), some (.int (v3 + (1 : Int32))), some (.int q11.1)]) hb ⟨rfl, ⟨rfl, ⟨rfl, ⟨rfl, ⟨rfl, trivial⟩⟩⟩⟩⟩
          · rw [if_neg hi12] at h
            cases h
      · rw [if_neg hi8] at h
        cases h
def j_Mo_polish_59 (v2 : Int32) (v3 : Int32) (g : M2) : Option (Int64 × M2) := ((f_Mo_laysDeafPowers g).bind fun q17 => (if v2 = 0 then some (v3.toInt64, q17) else (if v2 = (1 : Int32) then some ((q17.2 157 32), q17) else some ((q17.2 157 33), q17))))
theorem tj_Mo_polish_59 {Lx : Nat}  (v2 : Int32) (v3 : Int32)  (g : M2) {b : (Int64 × M2)} (h : j_Mo_polish_59 v2 v3 g = some b) : Ev Lx 248 cd_248 59 [some (.ref 157), none, some (.int v2), some (.int v3)] [] g (some (.long b.1), b.2) := by
  unfold j_Mo_polish_59 at h
  refine ev_rn (n := 1) (i2 := 60) (L2 := [some (.ref 157), none, some (.int v2), some (.int v3)]) (st2 := [.ref 157]) (g2 := g) cdE_248 rfl ?_
  obtain ⟨q17, hq17, h⟩ := Option.bind_eq_some_iff.mp h
  refine ev_call rfl cdE_240 rfl rfl rfl (e_Mo_laysDeafPowers   g hq17) ?_
  refine ev_rn (n := 1) (i2 := 62) (L2 := [some (.ref 157), none, some (.int v2), some (.int v3)]) (st2 := [.int v2]) (g2 := q17) cdE_248 rfl ?_
  by_cases hc18 : v2 = 0
  · rw [if_pos hc18] at h
    refine ev_zff rfl (cn_f (fun q => q hc18)) ?_
    refine ev_rn (n := 3) (i2 := 74) (L2 := [some (.ref 157), none, some (.int v2), some (.int v3)]) (st2 := [.long v3.toInt64]) (g2 := q17) cdE_248 rfl ?_
    cases h
    exact ev_ret rfl rfl
  · rw [if_neg hc18] at h
    refine ev_zft cdE_248 rfl (cn_t hc18) ?_
    refine ev_rn (n := 2) (i2 := 68) (L2 := [some (.ref 157), none, some (.int v2), some (.int v3)]) (st2 := [.int (1 : Int32), .int v2]) (g2 := q17) cdE_248 rfl ?_
    by_cases hc19 : v2 = (1 : Int32)
    · rw [if_pos hc19] at h
      refine ev_iff rfl (cn_f (fun q => q hc19)) ?_
      refine ev_rn (n := 3) (i2 := 74) (L2 := [some (.ref 157), none, some (.int v2), some (.int v3)]) (st2 := [.long (q17.2 157 32)]) (g2 := q17) cdE_248 rfl ?_
      cases h
      exact ev_ret rfl rfl
    · rw [if_neg hc19] at h
      refine ev_ift cdE_248 rfl (cn_t hc19) ?_
      refine ev_rn (n := 2) (i2 := 74) (L2 := [some (.ref 157), none, some (.int v2), some (.int v3)]) (st2 := [.long (q17.2 157 33)]) (g2 := q17) cdE_248 rfl ?_
      cases h
      exact ev_ret rfl rfl
def f_Mo_polish (p0 : Int32) (p1 : Int32) (g : M2) : Option (Int64 × M2) := (if (f_Mo_in p0.toInt64 (1 : Int64) (20 : Int64) g) = 0 then some ((-9223372036854775808 : Int64), g) else (if (f_Mo_in p1.toInt64 (0 : Int64) (2 : Int64) g) = 0 then some ((-9223372036854775808 : Int64), g) else ((f_Mo_cutsNow g).bind fun q3 => (if q3.1 = 0 then some ((-9223372036854775808 : Int64), q3.2) else ((f_Mo_bestStep q3.2).bind fun q5 => ((lp (fun s => b_Mo_polish_22 p0 p1 s.1 s.2.1 s.2.2) 5000 ((0 : Int32), q5.1, q5.2)).bind fun e16 => (j_Mo_polish_59 p1 e16.1 e16.2)))))))
theorem e_Mo_polish {Lx : Nat} (p0 : Int32) (p1 : Int32)  (g : M2) {b : (Int64 × M2)} (h : f_Mo_polish p0 p1 g = some b) : Ev Lx 248 cd_248 0 [some (.ref 157), some (.int p0), some (.int p1)] [] g (some (.long b.1), b.2) := by
  unfold f_Mo_polish at h
  refine ev_rn (n := 4) (i2 := 4) (L2 := [some (.ref 157), some (.int p0), some (.int p1)]) (st2 := [.long (20 : Int64), .long (1 : Int64), .long p0.toInt64]) (g2 := g) cdE_248 rfl ?_
  refine ev_call rfl cdE_16 rfl rfl rfl (e_Mo_in p0.toInt64 (1 : Int64) (20 : Int64)  g rfl) ?_
  by_cases hc1 : (f_Mo_in p0.toInt64 (1 : Int64) (20 : Int64) g) = 0
  · rw [if_pos hc1] at h
    refine ev_zft cdE_248 rfl (cn_t hc1) ?_
    refine ev_rn (n := 1) (i2 := 16) (L2 := [some (.ref 157), some (.int p0), some (.int p1)]) (st2 := [.long (-9223372036854775808 : Int64)]) (g2 := g) cdE_248 rfl ?_
    cases h
    exact ev_ret rfl rfl
  · rw [if_neg hc1] at h
    refine ev_zff rfl (cn_f hc1) ?_
    refine ev_rn (n := 4) (i2 := 10) (L2 := [some (.ref 157), some (.int p0), some (.int p1)]) (st2 := [.long (2 : Int64), .long (0 : Int64), .long p1.toInt64]) (g2 := g) cdE_248 rfl ?_
    refine ev_call rfl cdE_16 rfl rfl rfl (e_Mo_in p1.toInt64 (0 : Int64) (2 : Int64)  g rfl) ?_
    by_cases hc2 : (f_Mo_in p1.toInt64 (0 : Int64) (2 : Int64) g) = 0
    · rw [if_pos hc2] at h
      refine ev_zft cdE_248 rfl (cn_t hc2) ?_
      refine ev_rn (n := 1) (i2 := 16) (L2 := [some (.ref 157), some (.int p0), some (.int p1)]) (st2 := [.long (-9223372036854775808 : Int64)]) (g2 := g) cdE_248 rfl ?_
      cases h
      exact ev_ret rfl rfl
    · rw [if_neg hc2] at h
      refine ev_zff rfl (cn_f hc2) ?_
      refine ev_rn (n := 1) (i2 := 13) (L2 := [some (.ref 157), some (.int p0), some (.int p1)]) (st2 := [.ref 157]) (g2 := g) cdE_248 rfl ?_
      obtain ⟨q3, hq3, h⟩ := Option.bind_eq_some_iff.mp h
      refine ev_call rfl cdE_215 rfl rfl rfl (e_Mo_cutsNow   g hq3) ?_
      by_cases hc4 : q3.1 = 0
      · rw [if_pos hc4] at h
        refine ev_zff rfl (cn_f (fun q => q hc4)) ?_
        refine ev_rn (n := 1) (i2 := 16) (L2 := [some (.ref 157), some (.int p0), some (.int p1)]) (st2 := [.long (-9223372036854775808 : Int64)]) (g2 := q3.2) cdE_248 rfl ?_
        cases h
        exact ev_ret rfl rfl
      · rw [if_neg hc4] at h
        refine ev_zft cdE_248 rfl (cn_t hc4) ?_
        refine ev_rn (n := 3) (i2 := 20) (L2 := [some (.ref 157), some (.int p0), some (.int p1), some (.int (0 : Int32))]) (st2 := [.ref 157]) (g2 := q3.2) cdE_248 rfl ?_
        obtain ⟨q5, hq5, h⟩ := Option.bind_eq_some_iff.mp h
        refine ev_call rfl cdE_241 rfl rfl rfl (e_Mo_bestStep   q3.2 hq5) ?_
        refine ev_rn (n := 1) (i2 := 22) (L2 := [some (.ref 157), some (.int p0), some (.int p1), some (.int (0 : Int32)), some (.int q5.1)]) (st2 := []) (g2 := q5.2) cdE_248 rfl ?_
        obtain ⟨e16, he16, h⟩ := Option.bind_eq_some_iff.mp h
        have hX20 : Ev Lx 248 cd_248 59 [some (.ref 157), none, some (.int p1), some (.int e16.1)] [] e16.2 (some (.long b.1), b.2) := by
          exact ev_wk (L := [some (.ref 157), none, some (.int p1), some (.int e16.1)]) (tj_Mo_polish_59  p1 e16.1  e16.2 h) ⟨rfl, ⟨rfl, ⟨rfl, trivial⟩⟩⟩
        exact ev_wk (L := [some (.ref 157), some (.int p0), some (.int p1), some (.int (0 : Int32)), some (.int q5.1)]) (lp_ind (P := (fun (s : (Int32 × Int32 × M2)) => Ev Lx 248 cd_248 22 [some (.ref 157), some (.int p0), some (.int p1), some (.int s.1), some (.int s.2.1)] [] s.2.2 (some (.long b.1), b.2))) (fun s s2 hs hP => tb_Mo_polish_22 p0 p1  s.1 s.2.1 s.2.2 (b := .inl s2) hs hP) (fun s hs => tb_Mo_polish_22 p0 p1  s.1 s.2.1 s.2.2 (b := .inr e16) hs hX20) _ _ he16) ⟨rfl, ⟨rfl, ⟨rfl, ⟨rfl, ⟨rfl, trivial⟩⟩⟩⟩⟩
def b_Pl_dropDeaf_4 (v0 : Nat) (v1 : Int32) (v2 : Int32) (v3 : Int32) (g : M2) : Option ((Int32 × Int32 × M2) ⊕ (Int32 × M2)) := (if (g.1 v0 5) ≤ v3 then some (.inr (v2, g)) else (if inb v3 4 then (if (g.1 (v0 + 2) v3.toNatClampNeg) = v1 then some (.inl (v2, (v3 + (1 : Int32)), g)) else (if inb v3 4 then (if inb v2 4 then (bd (uI g (v0 + 2) v2.toNatClampNeg (g.1 (v0 + 2) v3.toNatClampNeg)) fun g5 => some (.inl ((v2 + (1 : Int32)), (v3 + (1 : Int32)), g5))) else none) else none)) else none))
theorem tb_Pl_dropDeaf_4 {Lx : Nat} (v0 : Nat) (v1 : Int32) (hv0 : IsPlan v0) (v2 : Int32) (v3 : Int32) (g : M2) {b : (Int32 × Int32 × M2) ⊕ (Int32 × M2)} {o : Option Value × M2} (h : b_Pl_dropDeaf_4 v0 v1 v2 v3 g = some b) (hb : Sum.elim (fun s => Ev Lx 249 cd_249 4 [some (.ref v0), some (.int v1), some (.int s.1), some (.int s.2.1)] [] s.2.2 o) (fun e => Ev Lx 249 cd_249 25 [some (.ref v0), none, some (.int e.1)] [] e.2 o) b) : Ev Lx 249 cd_249 4 [some (.ref v0), some (.int v1), some (.int v2), some (.int v3)] [] g o := by
  unfold b_Pl_dropDeaf_4 at h
  refine ev_rn (n := 2) (i2 := 6) (L2 := [some (.ref v0), some (.int v1), some (.int v2), some (.int v3)]) (st2 := [.ref v0, .int v3]) (g2 := g) cdE_249 rfl ?_
  refine ev_gf (v := .int (g.1 v0 5)) rfl (pl_at hv0) (by decide) rfl ?_
  by_cases hc1 : (g.1 v0 5) ≤ v3
  · rw [if_pos hc1] at h
    refine ev_ift cdE_249 rfl (cn_t hc1) ?_
    cases h
    exact ev_wk (L := [some (.ref v0), none, some (.int v2)]) hb ⟨rfl, ⟨rfl, trivial⟩⟩
  · rw [if_neg hc1] at h
    refine ev_iff rfl (cn_f hc1) ?_
    refine ev_rn (n := 1) (i2 := 9) (L2 := [some (.ref v0), some (.int v1), some (.int v2), some (.int v3)]) (st2 := [.ref v0]) (g2 := g) cdE_249 rfl ?_
    refine ev_gf (v := .ref (v0 + 2)) rfl (pl_at hv0) (by decide) rfl ?_
    refine ev_rn (n := 1) (i2 := 11) (L2 := [some (.ref v0), some (.int v1), some (.int v2), some (.int v3)]) (st2 := [.int v3, .ref (v0 + 2)]) (g2 := g) cdE_249 rfl ?_
    by_cases hi2 : inb v3 4
    · rw [if_pos hi2] at h
      refine ev_iaload (v := .int (g.1 (v0 + 2) v3.toNatClampNeg)) rfl (kd_of (pl_2 hv0)) (by decide) hi2 rfl ?_
      refine ev_rn (n := 1) (i2 := 13) (L2 := [some (.ref v0), some (.int v1), some (.int v2), some (.int v3)]) (st2 := [.int v1, .int (g.1 (v0 + 2) v3.toNatClampNeg)]) (g2 := g) cdE_249 rfl ?_
      by_cases hc3 : (g.1 (v0 + 2) v3.toNatClampNeg) = v1
      · rw [if_pos hc3] at h
        refine ev_ift cdE_249 rfl (cn_t hc3) ?_
        refine ev_rn (n := 2) (i2 := 4) (L2 := [some (.ref v0), some (.int v1), some (.int v2), some (.int (v3 + (1 : Int32)))]) (st2 := []) (g2 := g) cdE_249 rfl ?_
        cases h
        exact ev_wk (L := [some (.ref v0), some (.int v1), some (.int v2), some (.int (v3 + (1 : Int32)))]) hb ⟨rfl, ⟨rfl, ⟨rfl, ⟨rfl, trivial⟩⟩⟩⟩
      · rw [if_neg hc3] at h
        refine ev_iff rfl (cn_f hc3) ?_
        refine ev_rn (n := 1) (i2 := 15) (L2 := [some (.ref v0), some (.int v1), some (.int v2), some (.int v3)]) (st2 := [.ref v0]) (g2 := g) cdE_249 rfl ?_
        refine ev_gf (v := .ref (v0 + 2)) rfl (pl_at hv0) (by decide) rfl ?_
        refine ev_rn (n := 2) (i2 := 18) (L2 := [some (.ref v0), some (.int v1), some (.int v2), some (.int v3)]) (st2 := [.ref v0, .int v2, .ref (v0 + 2)]) (g2 := g) cdE_249 rfl ?_
        refine ev_gf (v := .ref (v0 + 2)) rfl (pl_at hv0) (by decide) rfl ?_
        refine ev_rn (n := 1) (i2 := 20) (L2 := [some (.ref v0), some (.int v1), some (.int v2), some (.int v3)]) (st2 := [.int v3, .ref (v0 + 2), .int v2, .ref (v0 + 2)]) (g2 := g) cdE_249 rfl ?_
        by_cases hi4 : inb v3 4
        · rw [if_pos hi4] at h
          refine ev_iaload (v := .int (g.1 (v0 + 2) v3.toNatClampNeg)) rfl (kd_of (pl_2 hv0)) (by decide) hi4 rfl ?_
          by_cases hi6 : inb v2 4
          · rw [if_pos hi6] at h
            refine bd_elim h (fun g5 hg5 h => ?_)
            refine ev_iastore (g2 := g5) rfl (pl_2 hv0) (by decide) hi6 (by rw [hg5] <;> rfl) ?_
            refine ev_rn (n := 2) (i2 := 24) (L2 := [some (.ref v0), some (.int v1), some (.int (v2 + (1 : Int32))), some (.int (v3 + (1 : Int32)))]) (st2 := []) (g2 := g5) cdE_249 rfl ?_
            refine ev_rn (n := 1) (i2 := 4) (L2 := [some (.ref v0), some (.int v1), some (.int (v2 + (1 : Int32))), some (.int (v3 + (1 : Int32)))]) (st2 := []) (g2 := g5) cdE_249 rfl ?_
            cases h
            exact ev_wk (L := [some (.ref v0), some (.int v1), some (.int (v2 + (1 : Int32))), some (.int (v3 + (1 : Int32)))]) hb ⟨rfl, ⟨rfl, ⟨rfl, ⟨rfl, trivial⟩⟩⟩⟩
          · rw [if_neg hi6] at h
            cases h
        · rw [if_neg hi4] at h
          cases h
    · rw [if_neg hi2] at h
      cases h
def f_Pl_dropDeaf (a0 : Nat) (p0 : Int32) (g : M2) : Option (M2) := ((lp (fun s => b_Pl_dropDeaf_4 a0 p0 s.1 s.2.1 s.2.2) 5000 ((0 : Int32), (0 : Int32), g)).bind fun e7 => (bd (uI e7.2 a0 5 e7.1) fun g8 => some g8))
theorem e_Pl_dropDeaf {Lx : Nat} (a0 : Nat) (p0 : Int32) (ha0 : IsPlan a0) (g : M2) {b : M2} (h : f_Pl_dropDeaf a0 p0 g = some b) : Ev Lx 249 cd_249 0 [some (.ref a0), some (.int p0)] [] g (none, b) := by
  unfold f_Pl_dropDeaf at h
  refine ev_rn (n := 4) (i2 := 4) (L2 := [some (.ref a0), some (.int p0), some (.int (0 : Int32)), some (.int (0 : Int32))]) (st2 := []) (g2 := g) cdE_249 rfl ?_
  obtain ⟨e7, he7, h⟩ := Option.bind_eq_some_iff.mp h
  have hX9 : Ev Lx 249 cd_249 25 [some (.ref a0), none, some (.int e7.1)] [] e7.2 (none, b) := by
    refine ev_rn (n := 2) (i2 := 27) (L2 := [some (.ref a0), none, some (.int e7.1)]) (st2 := [.int e7.1, .ref a0]) (g2 := e7.2) cdE_249 rfl ?_
    refine bd_elim h (fun g8 hg8 h => ?_)
    refine ev_pf (g2 := g8) rfl (pl_at ha0) (by decide) (by rw [hg8] <;> rfl) ?_
    cases h
    exact ev_ret rfl rfl
  exact ev_wk (L := [some (.ref a0), some (.int p0), some (.int (0 : Int32)), some (.int (0 : Int32))]) (lp_ind (P := (fun (s : (Int32 × Int32 × M2)) => Ev Lx 249 cd_249 4 [some (.ref a0), some (.int p0), some (.int s.1), some (.int s.2.1)] [] s.2.2 (none, b))) (fun s s2 hs hP => tb_Pl_dropDeaf_4 a0 p0 ha0 s.1 s.2.1 s.2.2 (b := .inl s2) hs hP) (fun s hs => tb_Pl_dropDeaf_4 a0 p0 ha0 s.1 s.2.1 s.2.2 (b := .inr e7) hs hX9) _ _ he7) ⟨rfl, ⟨rfl, ⟨rfl, ⟨rfl, trivial⟩⟩⟩⟩
def f_Pl_turnTo (a0 : Nat) (p0 : Int32) (g : M2) : Option (M2) := ((f_Pl_dropDeaf a0 p0 g).bind fun q1 => (bd (uI q1 a0 4 p0) fun g2 => some g2))
theorem e_Pl_turnTo {Lx : Nat} (a0 : Nat) (p0 : Int32) (ha0 : IsPlan a0) (g : M2) {b : M2} (h : f_Pl_turnTo a0 p0 g = some b) : Ev Lx 250 cd_250 0 [some (.ref a0), some (.int p0)] [] g (none, b) := by
  unfold f_Pl_turnTo at h
  refine ev_rn (n := 2) (i2 := 2) (L2 := [some (.ref a0), some (.int p0)]) (st2 := [.int p0, .ref a0]) (g2 := g) cdE_250 rfl ?_
  obtain ⟨q1, hq1, h⟩ := Option.bind_eq_some_iff.mp h
  refine ev_call rfl cdE_249 (cokV rfl rfl (pl_at ha0) rfl) rfl rfl (e_Pl_dropDeaf a0 p0 ha0 g hq1) ?_
  refine ev_rn (n := 2) (i2 := 5) (L2 := [some (.ref a0), some (.int p0)]) (st2 := [.int p0, .ref a0]) (g2 := q1) cdE_250 rfl ?_
  refine bd_elim h (fun g2 hg2 h => ?_)
  refine ev_pf (g2 := g2) rfl (pl_at ha0) (by decide) (by rw [hg2] <;> rfl) ?_
  cases h
  exact ev_ret rfl rfl
def f_Da_holdsLooking (p0 : Int32) (g : M2) : Option (Int32 × M2) := ((f_Pl_copy 73 7 g).bind fun q1 => ((f_Pl_turnTo 73 p0 q1).bind fun q2 => ((f_So_solve 72 q2).bind fun q3 => some (((q3.1 72 13) &&& 1), q3))))
theorem e_Da_holdsLooking {Lx : Nat} (p0 : Int32)  (g : M2) {b : (Int32 × M2)} (h : f_Da_holdsLooking p0 g = some b) : Ev Lx 251 cd_251 0 [some (.ref 0), some (.int p0)] [] g (some (.int b.1), b.2) := by
  unfold f_Da_holdsLooking at h
  refine ev_rn (n := 6) (i2 := 6) (L2 := [some (.ref 0), some (.int p0)]) (st2 := [.ref 7, .ref 73]) (g2 := g) cdE_251 rfl ?_
  obtain ⟨q1, hq1, h⟩ := Option.bind_eq_some_iff.mp h
  refine ev_call rfl cdE_40 rfl rfl rfl (e_Pl_copy 73 7 (by decide) (by decide) g hq1) ?_
  refine ev_rn (n := 4) (i2 := 11) (L2 := [some (.ref 0), some (.int p0)]) (st2 := [.int p0, .ref 73]) (g2 := q1) cdE_251 rfl ?_
  obtain ⟨q2, hq2, h⟩ := Option.bind_eq_some_iff.mp h
  refine ev_call rfl cdE_250 rfl rfl rfl (e_Pl_turnTo 73 p0 (by decide) q1 hq2) ?_
  refine ev_rn (n := 2) (i2 := 14) (L2 := [some (.ref 0), some (.int p0)]) (st2 := [.ref 72]) (g2 := q2) cdE_251 rfl ?_
  obtain ⟨q3, hq3, h⟩ := Option.bind_eq_some_iff.mp h
  refine ev_call rfl cdE_95 rfl rfl rfl (e_So_solve 72 (by decide) q2 hq3) ?_
  refine ev_rn (n := 3) (i2 := 18) (L2 := [some (.ref 0), some (.int p0)]) (st2 := [.int (q3.1 72 13)]) (g2 := q3) cdE_251 rfl ?_
  cases h
  exact ev_ret rfl rfl
def b_Da_looks_4  (v1 : Int32) (v2 : Int32) (g : M2) : Option ((Int32 × Int32 × M2) ⊕ (Int32 × M2)) := (if (12 : Int32) ≤ v2 then some (.inr (v1, g)) else ((f_Da_holdsLooking v2 g).bind fun q2 => (if q2.1 = 0 then some (.inl (v1, (v2 + (1 : Int32)), q2.2)) else some (.inl ((v1 ||| ((1 : Int32) <<< (v2 &&& 31))), (v2 + (1 : Int32)), q2.2)))))
theorem tb_Da_looks_4 {Lx : Nat}   (v1 : Int32) (v2 : Int32) (g : M2) {b : (Int32 × Int32 × M2) ⊕ (Int32 × M2)} {o : Option Value × M2} (h : b_Da_looks_4 v1 v2 g = some b) (hb : Sum.elim (fun s => Ev Lx 252 cd_252 4 [some (.ref 0), some (.int s.1), some (.int s.2.1)] [] s.2.2 o) (fun e => Ev Lx 252 cd_252 19 [none, some (.int e.1)] [] e.2 o) b) : Ev Lx 252 cd_252 4 [some (.ref 0), some (.int v1), some (.int v2)] [] g o := by
  unfold b_Da_looks_4 at h
  refine ev_rn (n := 2) (i2 := 6) (L2 := [some (.ref 0), some (.int v1), some (.int v2)]) (st2 := [.int (12 : Int32), .int v2]) (g2 := g) cdE_252 rfl ?_
  by_cases hc1 : (12 : Int32) ≤ v2
  · rw [if_pos hc1] at h
    refine ev_ift cdE_252 rfl (cn_t hc1) ?_
    cases h
    exact ev_wk (L := [none, some (.int v1)]) hb ⟨rfl, trivial⟩
  · rw [if_neg hc1] at h
    refine ev_iff rfl (cn_f hc1) ?_
    refine ev_rn (n := 2) (i2 := 9) (L2 := [some (.ref 0), some (.int v1), some (.int v2)]) (st2 := [.int v2, .ref 0]) (g2 := g) cdE_252 rfl ?_
    obtain ⟨q2, hq2, h⟩ := Option.bind_eq_some_iff.mp h
    refine ev_call rfl cdE_251 rfl rfl rfl (e_Da_holdsLooking v2  g hq2) ?_
    by_cases hc3 : q2.1 = 0
    · rw [if_pos hc3] at h
      refine ev_zft cdE_252 rfl (cn_t hc3) ?_
      refine ev_rn (n := 2) (i2 := 4) (L2 := [some (.ref 0), some (.int v1), some (.int (v2 + (1 : Int32)))]) (st2 := []) (g2 := q2.2) cdE_252 rfl ?_
      cases h
      exact ev_wk (L := [some (.ref 0), some (.int v1), some (.int (v2 + (1 : Int32)))]) hb ⟨rfl, ⟨rfl, ⟨rfl, trivial⟩⟩⟩
    · rw [if_neg hc3] at h
      refine ev_zff rfl (cn_f hc3) ?_
      refine ev_rn (n := 7) (i2 := 18) (L2 := [some (.ref 0), some (.int (v1 ||| ((1 : Int32) <<< (v2 &&& 31)))), some (.int (v2 + (1 : Int32)))]) (st2 := []) (g2 := q2.2) cdE_252 rfl ?_
      refine ev_rn (n := 1) (i2 := 4) (L2 := [some (.ref 0), some (.int (v1 ||| ((1 : Int32) <<< (v2 &&& 31)))), some (.int (v2 + (1 : Int32)))]) (st2 := []) (g2 := q2.2) cdE_252 rfl ?_
      cases h
      exact ev_wk (L := [some (.ref 0), some (.int (v1 ||| ((1 : Int32) <<< (v2 &&& 31)))), some (.int (v2 + (1 : Int32)))]) hb ⟨rfl, ⟨rfl, ⟨rfl, trivial⟩⟩⟩
def f_Da_looks  (g : M2) : Option (Int32 × M2) := ((lp (fun s => b_Da_looks_4  s.1 s.2.1 s.2.2) 5000 ((0 : Int32), (0 : Int32), g)).bind fun e4 => some (e4.1, e4.2))
theorem e_Da_looks {Lx : Nat}   (g : M2) {b : (Int32 × M2)} (h : f_Da_looks  g = some b) : Ev Lx 252 cd_252 0 [some (.ref 0)] [] g (some (.int b.1), b.2) := by
  unfold f_Da_looks at h
  refine ev_rn (n := 4) (i2 := 4) (L2 := [some (.ref 0), some (.int (0 : Int32)), some (.int (0 : Int32))]) (st2 := []) (g2 := g) cdE_252 rfl ?_
  obtain ⟨e4, he4, h⟩ := Option.bind_eq_some_iff.mp h
  have hX5 : Ev Lx 252 cd_252 19 [none, some (.int e4.1)] [] e4.2 (some (.int b.1), b.2) := by
    refine ev_rn (n := 1) (i2 := 20) (L2 := [none, some (.int e4.1)]) (st2 := [.int e4.1]) (g2 := e4.2) cdE_252 rfl ?_
    cases h
    exact ev_ret rfl rfl
  exact ev_wk (L := [some (.ref 0), some (.int (0 : Int32)), some (.int (0 : Int32))]) (lp_ind (P := (fun (s : (Int32 × Int32 × M2)) => Ev Lx 252 cd_252 4 [some (.ref 0), some (.int s.1), some (.int s.2.1)] [] s.2.2 (some (.int b.1), b.2))) (fun s s2 hs hP => tb_Da_looks_4   s.1 s.2.1 s.2.2 (b := .inl s2) hs hP) (fun s hs => tb_Da_looks_4   s.1 s.2.1 s.2.2 (b := .inr e4) hs hX5) _ _ he4) ⟨rfl, ⟨rfl, ⟨rfl, trivial⟩⟩⟩
def b_Mo_looks_4  (v1 : Int32) (v2 : Int32) (g : M2) : Option ((Int32 × Int32 × M2) ⊕ (Int32 × M2)) := (if (12 : Int32) ≤ v2 then some (.inr (v1, g)) else ((f_Mo_solvesWith (0 : Int32) v2 g).bind fun q2 => (if (q2.1 157 15) = 0 then some (.inl ((v1 ||| (0 : Int32)), (v2 + (1 : Int32)), q2)) else some (.inl ((v1 ||| ((1 : Int32) <<< (v2 &&& 31))), (v2 + (1 : Int32)), q2)))))
theorem tb_Mo_looks_4 {Lx : Nat}   (v1 : Int32) (v2 : Int32) (g : M2) {b : (Int32 × Int32 × M2) ⊕ (Int32 × M2)} {o : Option Value × M2} (h : b_Mo_looks_4 v1 v2 g = some b) (hb : Sum.elim (fun s => Ev Lx 253 cd_253 4 [some (.ref 157), some (.int s.1), some (.int s.2.1)] [] s.2.2 o) (fun e => Ev Lx 253 cd_253 24 [none, some (.int e.1)] [] e.2 o) b) : Ev Lx 253 cd_253 4 [some (.ref 157), some (.int v1), some (.int v2)] [] g o := by
  unfold b_Mo_looks_4 at h
  refine ev_rn (n := 2) (i2 := 6) (L2 := [some (.ref 157), some (.int v1), some (.int v2)]) (st2 := [.int (12 : Int32), .int v2]) (g2 := g) cdE_253 rfl ?_
  by_cases hc1 : (12 : Int32) ≤ v2
  · rw [if_pos hc1] at h
    refine ev_ift cdE_253 rfl (cn_t hc1) ?_
    cases h
    exact ev_wk (L := [none, some (.int v1)]) hb ⟨rfl, trivial⟩
  · rw [if_neg hc1] at h
    refine ev_iff rfl (cn_f hc1) ?_
    refine ev_rn (n := 3) (i2 := 10) (L2 := [some (.ref 157), some (.int v1), some (.int v2)]) (st2 := [.int v2, .int (0 : Int32), .ref 157]) (g2 := g) cdE_253 rfl ?_
    obtain ⟨q2, hq2, h⟩ := Option.bind_eq_some_iff.mp h
    refine ev_call rfl cdE_117 rfl rfl rfl (e_Mo_solvesWith (0 : Int32) v2  g hq2) ?_
    refine ev_rn (n := 3) (i2 := 14) (L2 := [some (.ref 157), some (.int v1), some (.int v2)]) (st2 := [.int (q2.1 157 15), .int v1]) (g2 := q2) cdE_253 rfl ?_
    by_cases hc3 : (q2.1 157 15) = 0
    · rw [if_pos hc3] at h
      refine ev_zft cdE_253 rfl (cn_t hc3) ?_
      refine ev_rn (n := 4) (i2 := 23) (L2 := [some (.ref 157), some (.int (v1 ||| (0 : Int32))), some (.int (v2 + (1 : Int32)))]) (st2 := []) (g2 := q2) cdE_253 rfl ?_
      refine ev_rn (n := 1) (i2 := 4) (L2 := [some (.ref 157), some (.int (v1 ||| (0 : Int32))), some (.int (v2 + (1 : Int32)))]) (st2 := []) (g2 := q2) cdE_253 rfl ?_
      cases h
      exact ev_wk (L := [some (.ref 157), some (.int (v1 ||| (0 : Int32))), some (.int (v2 + (1 : Int32)))]) hb ⟨rfl, ⟨rfl, ⟨rfl, trivial⟩⟩⟩
    · rw [if_neg hc3] at h
      refine ev_zff rfl (cn_f hc3) ?_
      refine ev_rn (n := 7) (i2 := 23) (L2 := [some (.ref 157), some (.int (v1 ||| ((1 : Int32) <<< (v2 &&& 31)))), some (.int (v2 + (1 : Int32)))]) (st2 := []) (g2 := q2) cdE_253 rfl ?_
      refine ev_rn (n := 1) (i2 := 4) (L2 := [some (.ref 157), some (.int (v1 ||| ((1 : Int32) <<< (v2 &&& 31)))), some (.int (v2 + (1 : Int32)))]) (st2 := []) (g2 := q2) cdE_253 rfl ?_
      cases h
      exact ev_wk (L := [some (.ref 157), some (.int (v1 ||| ((1 : Int32) <<< (v2 &&& 31)))), some (.int (v2 + (1 : Int32)))]) hb ⟨rfl, ⟨rfl, ⟨rfl, trivial⟩⟩⟩
def f_Mo_looks  (g : M2) : Option (Int32 × M2) := ((lp (fun s => b_Mo_looks_4  s.1 s.2.1 s.2.2) 5000 ((0 : Int32), (0 : Int32), g)).bind fun e4 => some (e4.1, e4.2))
theorem e_Mo_looks {Lx : Nat}   (g : M2) {b : (Int32 × M2)} (h : f_Mo_looks  g = some b) : Ev Lx 253 cd_253 0 [some (.ref 157)] [] g (some (.int b.1), b.2) := by
  unfold f_Mo_looks at h
  refine ev_rn (n := 4) (i2 := 4) (L2 := [some (.ref 157), some (.int (0 : Int32)), some (.int (0 : Int32))]) (st2 := []) (g2 := g) cdE_253 rfl ?_
  obtain ⟨e4, he4, h⟩ := Option.bind_eq_some_iff.mp h
  have hX5 : Ev Lx 253 cd_253 24 [none, some (.int e4.1)] [] e4.2 (some (.int b.1), b.2) := by
    refine ev_rn (n := 1) (i2 := 25) (L2 := [none, some (.int e4.1)]) (st2 := [.int e4.1]) (g2 := e4.2) cdE_253 rfl ?_
    cases h
    exact ev_ret rfl rfl
  exact ev_wk (L := [some (.ref 157), some (.int (0 : Int32)), some (.int (0 : Int32))]) (lp_ind (P := (fun (s : (Int32 × Int32 × M2)) => Ev Lx 253 cd_253 4 [some (.ref 157), some (.int s.1), some (.int s.2.1)] [] s.2.2 (some (.int b.1), b.2))) (fun s s2 hs hP => tb_Mo_looks_4   s.1 s.2.1 s.2.2 (b := .inl s2) hs hP) (fun s hs => tb_Mo_looks_4   s.1 s.2.1 s.2.2 (b := .inr e4) hs hX5) _ _ he4) ⟨rfl, ⟨rfl, ⟨rfl, trivial⟩⟩⟩
def f_Le_clear  (g : M2) : Option (M2) := (bd (uI g 151 0 (-1 : Int32)) fun g1 => some g1)
theorem e_Le_clear {Lx : Nat}   (g : M2) {b : M2} (h : f_Le_clear  g = some b) : Ev Lx 254 cd_254 0 [some (.ref 151)] [] g (none, b) := by
  unfold f_Le_clear at h
  refine ev_rn (n := 2) (i2 := 2) (L2 := [some (.ref 151)]) (st2 := [.int (-1 : Int32), .ref 151]) (g2 := g) cdE_254 rfl ?_
  refine bd_elim h (fun g1 hg1 h => ?_)
  refine ev_pf (g2 := g1) rfl (rfl : S0[151]? = some _) (by decide) (by rw [hg1] <;> rfl) ?_
  cases h
  exact ev_ret rfl rfl
def j_Le_offer_28 (v1 : Nat) (v2 : Int32) (g : M2) : Option (M2) := (bd (uI g 151 0 v2) fun g2 => ((f_So_totalX v1 g2).bind fun q3 => (bd (uJ g2 151 1 q3) fun g4 => ((f_So_totalY v1 g4).bind fun q5 => (bd (uJ g4 151 2 q5) fun g6 => (bd (uJ g6 151 3 (g6.2 v1 16)) fun g7 => some g7))))))
theorem tj_Le_offer_28 {Lx : Nat}  (v1 : Nat) (v2 : Int32) (hv1 : IsSol v1) (g : M2) {b : M2} (h : j_Le_offer_28 v1 v2 g = some b) : Ev Lx 255 cd_255 28 [some (.ref 151), some (.ref v1), some (.int v2)] [] g (none, b) := by
  unfold j_Le_offer_28 at h
  refine ev_rn (n := 2) (i2 := 30) (L2 := [some (.ref 151), some (.ref v1), some (.int v2)]) (st2 := [.int v2, .ref 151]) (g2 := g) cdE_255 rfl ?_
  refine bd_elim h (fun g2 hg2 h => ?_)
  refine ev_pf (g2 := g2) rfl (rfl : S0[151]? = some _) (by decide) (by rw [hg2] <;> rfl) ?_
  refine ev_rn (n := 2) (i2 := 33) (L2 := [some (.ref 151), some (.ref v1), some (.int v2)]) (st2 := [.ref v1, .ref 151]) (g2 := g2) cdE_255 rfl ?_
  obtain ⟨q3, hq3, h⟩ := Option.bind_eq_some_iff.mp h
  refine ev_call rfl cdE_140 (cokV rfl rfl (so_at hv1) rfl) rfl rfl (e_So_totalX v1 hv1 g2 hq3) ?_
  refine bd_elim h (fun g4 hg4 h => ?_)
  refine ev_pf (g2 := g4) rfl (rfl : S0[151]? = some _) (by decide) (by rw [hg4] <;> rfl) ?_
  refine ev_rn (n := 2) (i2 := 37) (L2 := [some (.ref 151), some (.ref v1), some (.int v2)]) (st2 := [.ref v1, .ref 151]) (g2 := g4) cdE_255 rfl ?_
  obtain ⟨q5, hq5, h⟩ := Option.bind_eq_some_iff.mp h
  refine ev_call rfl cdE_141 (cokV rfl rfl (so_at hv1) rfl) rfl rfl (e_So_totalY v1 hv1 g4 hq5) ?_
  refine bd_elim h (fun g6 hg6 h => ?_)
  refine ev_pf (g2 := g6) rfl (rfl : S0[151]? = some _) (by decide) (by rw [hg6] <;> rfl) ?_
  refine ev_rn (n := 2) (i2 := 41) (L2 := [some (.ref 151), some (.ref v1), some (.int v2)]) (st2 := [.ref v1, .ref 151]) (g2 := g6) cdE_255 rfl ?_
  refine ev_gf (v := .long (g6.2 v1 16)) rfl (so_at hv1) (by decide) rfl ?_
  refine bd_elim h (fun g7 hg7 h => ?_)
  refine ev_pf (g2 := g7) rfl (rfl : S0[151]? = some _) (by decide) (by rw [hg7] <;> rfl) ?_
  cases h
  exact ev_ret rfl rfl
def f_Le_offer (p0 : Nat) (p1 : Int32) (g : M2) : Option (M2) := (if (g.1 151 0) = (-1 : Int32) then (j_Le_offer_28 p0 p1 g) else ((f_So_totalX p0 g).bind fun q8 => ((f_So_totalY p0 g).bind fun q9 => ((f_Da_signOf ((q8 * (g.2 151 3)) - ((g.2 151 1) * (g.2 p0 16))) ((q9 * (g.2 151 3)) - ((g.2 151 2) * (g.2 p0 16))) g).bind fun q10 => (if 0 ≤ q10 then some g else (j_Le_offer_28 p0 p1 g))))))
theorem e_Le_offer {Lx : Nat} (p0 : Nat) (p1 : Int32) (hp0 : IsSol p0) (g : M2) {b : M2} (h : f_Le_offer p0 p1 g = some b) : Ev Lx 255 cd_255 0 [some (.ref 151), some (.ref p0), some (.int p1)] [] g (none, b) := by
  unfold f_Le_offer at h
  refine ev_rn (n := 3) (i2 := 3) (L2 := [some (.ref 151), some (.ref p0), some (.int p1)]) (st2 := [.int (-1 : Int32), .int (g.1 151 0)]) (g2 := g) cdE_255 rfl ?_
  by_cases hc1 : (g.1 151 0) = (-1 : Int32)
  · rw [if_pos hc1] at h
    refine ev_ift cdE_255 rfl (cn_t hc1) ?_
    exact ev_wk (L := [some (.ref 151), some (.ref p0), some (.int p1)]) (tj_Le_offer_28  p0 p1 hp0 g h) ⟨rfl, ⟨rfl, ⟨rfl, trivial⟩⟩⟩
  · rw [if_neg hc1] at h
    refine ev_iff rfl (cn_f hc1) ?_
    refine ev_rn (n := 1) (i2 := 5) (L2 := [some (.ref 151), some (.ref p0), some (.int p1)]) (st2 := [.ref p0]) (g2 := g) cdE_255 rfl ?_
    obtain ⟨q8, hq8, h⟩ := Option.bind_eq_some_iff.mp h
    refine ev_call rfl cdE_140 (cokV rfl rfl (so_at hp0) rfl) rfl rfl (e_So_totalX p0 hp0 g hq8) ?_
    refine ev_rn (n := 6) (i2 := 12) (L2 := [some (.ref 151), some (.ref p0), some (.int p1)]) (st2 := [.ref p0, .long (g.2 151 1), .long (q8 * (g.2 151 3))]) (g2 := g) cdE_255 rfl ?_
    refine ev_gf (v := .long (g.2 p0 16)) rfl (so_at hp0) (by decide) rfl ?_
    refine ev_rn (n := 3) (i2 := 16) (L2 := [some (.ref 151), some (.ref p0), some (.int p1)]) (st2 := [.ref p0, .long ((q8 * (g.2 151 3)) - ((g.2 151 1) * (g.2 p0 16)))]) (g2 := g) cdE_255 rfl ?_
    obtain ⟨q9, hq9, h⟩ := Option.bind_eq_some_iff.mp h
    refine ev_call rfl cdE_141 (cokV rfl rfl (so_at hp0) rfl) rfl rfl (e_So_totalY p0 hp0 g hq9) ?_
    refine ev_rn (n := 6) (i2 := 23) (L2 := [some (.ref 151), some (.ref p0), some (.int p1)]) (st2 := [.ref p0, .long (g.2 151 2), .long (q9 * (g.2 151 3)), .long ((q8 * (g.2 151 3)) - ((g.2 151 1) * (g.2 p0 16)))]) (g2 := g) cdE_255 rfl ?_
    refine ev_gf (v := .long (g.2 p0 16)) rfl (so_at hp0) (by decide) rfl ?_
    refine ev_rn (n := 2) (i2 := 26) (L2 := [some (.ref 151), some (.ref p0), some (.int p1)]) (st2 := [.long ((q9 * (g.2 151 3)) - ((g.2 151 2) * (g.2 p0 16))), .long ((q8 * (g.2 151 3)) - ((g.2 151 1) * (g.2 p0 16)))]) (g2 := g) cdE_255 rfl ?_
    obtain ⟨q10, hq10, h⟩ := Option.bind_eq_some_iff.mp h
    refine ev_call rfl cdE_144 rfl rfl rfl (e_Da_signOf ((q8 * (g.2 151 3)) - ((g.2 151 1) * (g.2 p0 16))) ((q9 * (g.2 151 3)) - ((g.2 151 2) * (g.2 p0 16)))  g hq10) ?_
    by_cases hc11 : 0 ≤ q10
    · rw [if_pos hc11] at h
      refine ev_zft cdE_255 rfl (cn_t hc11) ?_
      cases h
      exact ev_ret rfl rfl
    · rw [if_neg hc11] at h
      refine ev_zff rfl (cn_f hc11) ?_
      exact ev_wk (L := [some (.ref 151), some (.ref p0), some (.int p1)]) (tj_Le_offer_28  p0 p1 hp0 g h) ⟨rfl, ⟨rfl, ⟨rfl, trivial⟩⟩⟩
def b_Da_easiest_5  (v1 : Int32) (g : M2) : Option ((Int32 × M2) ⊕ M2) := (if (12 : Int32) ≤ v1 then some (.inr g) else ((f_Da_holdsLooking v1 g).bind fun q3 => (if q3.1 = 0 then some (.inl ((v1 + (1 : Int32)), q3.2)) else ((f_Le_offer 72 v1 q3.2).bind fun q5 => some (.inl ((v1 + (1 : Int32)), q5))))))
theorem tb_Da_easiest_5 {Lx : Nat}   (v1 : Int32) (g : M2) {b : (Int32 × M2) ⊕ M2} {o : Option Value × M2} (h : b_Da_easiest_5 v1 g = some b) (hb : Sum.elim (fun s => Ev Lx 256 cd_256 5 [some (.ref 0), some (.int s.1)] [] s.2 o) (fun e => Ev Lx 256 cd_256 20 [some (.ref 0)] [] e o) b) : Ev Lx 256 cd_256 5 [some (.ref 0), some (.int v1)] [] g o := by
  unfold b_Da_easiest_5 at h
  refine ev_rn (n := 2) (i2 := 7) (L2 := [some (.ref 0), some (.int v1)]) (st2 := [.int (12 : Int32), .int v1]) (g2 := g) cdE_256 rfl ?_
  by_cases hc2 : (12 : Int32) ≤ v1
  · rw [if_pos hc2] at h
    refine ev_ift cdE_256 rfl (cn_t hc2) ?_
    cases h
    exact ev_wk (L := [some (.ref 0)]) hb ⟨rfl, trivial⟩
  · rw [if_neg hc2] at h
    refine ev_iff rfl (cn_f hc2) ?_
    refine ev_rn (n := 2) (i2 := 10) (L2 := [some (.ref 0), some (.int v1)]) (st2 := [.int v1, .ref 0]) (g2 := g) cdE_256 rfl ?_
    obtain ⟨q3, hq3, h⟩ := Option.bind_eq_some_iff.mp h
    refine ev_call rfl cdE_251 rfl rfl rfl (e_Da_holdsLooking v1  g hq3) ?_
    by_cases hc4 : q3.1 = 0
    · rw [if_pos hc4] at h
      refine ev_zft cdE_256 rfl (cn_t hc4) ?_
      refine ev_rn (n := 2) (i2 := 5) (L2 := [some (.ref 0), some (.int (v1 + (1 : Int32)))]) (st2 := []) (g2 := q3.2) cdE_256 rfl ?_
      cases h
      exact ev_wk (L := [some (.ref 0), some (.int (v1 + (1 : Int32)))]) hb ⟨rfl, ⟨rfl, trivial⟩⟩
    · rw [if_neg hc4] at h
      refine ev_zff rfl (cn_f hc4) ?_
      refine ev_rn (n := 5) (i2 := 17) (L2 := [some (.ref 0), some (.int v1)]) (st2 := [.int v1, .ref 72, .ref 151]) (g2 := q3.2) cdE_256 rfl ?_
      obtain ⟨q5, hq5, h⟩ := Option.bind_eq_some_iff.mp h
      refine ev_call rfl cdE_255 rfl rfl rfl (e_Le_offer 72 v1 (by decide) q3.2 hq5) ?_
      refine ev_rn (n := 2) (i2 := 5) (L2 := [some (.ref 0), some (.int (v1 + (1 : Int32)))]) (st2 := []) (g2 := q5) cdE_256 rfl ?_
      cases h
      exact ev_wk (L := [some (.ref 0), some (.int (v1 + (1 : Int32)))]) hb ⟨rfl, ⟨rfl, trivial⟩⟩
def f_Da_easiest  (g : M2) : Option (Int32 × M2) := ((f_Le_clear g).bind fun q1 => ((lp (fun s => b_Da_easiest_5  s.1 s.2) 5000 ((0 : Int32), q1)).bind fun e6 => some ((e6.1 151 0), e6)))
theorem e_Da_easiest {Lx : Nat}   (g : M2) {b : (Int32 × M2)} (h : f_Da_easiest  g = some b) : Ev Lx 256 cd_256 0 [some (.ref 0)] [] g (some (.int b.1), b.2) := by
  unfold f_Da_easiest at h
  refine ev_rn (n := 2) (i2 := 2) (L2 := [some (.ref 0)]) (st2 := [.ref 151]) (g2 := g) cdE_256 rfl ?_
  obtain ⟨q1, hq1, h⟩ := Option.bind_eq_some_iff.mp h
  refine ev_call rfl cdE_254 rfl rfl rfl (e_Le_clear   g hq1) ?_
  refine ev_rn (n := 2) (i2 := 5) (L2 := [some (.ref 0), some (.int (0 : Int32))]) (st2 := []) (g2 := q1) cdE_256 rfl ?_
  obtain ⟨e6, he6, h⟩ := Option.bind_eq_some_iff.mp h
  have hX7 : Ev Lx 256 cd_256 20 [some (.ref 0)] [] e6 (some (.int b.1), b.2) := by
    refine ev_rn (n := 3) (i2 := 23) (L2 := [some (.ref 0)]) (st2 := [.int (e6.1 151 0)]) (g2 := e6) cdE_256 rfl ?_
    cases h
    exact ev_ret rfl rfl
  exact ev_wk (L := [some (.ref 0), some (.int (0 : Int32))]) (lp_ind (P := (fun (s : (Int32 × M2)) => Ev Lx 256 cd_256 5 [some (.ref 0), some (.int s.1)] [] s.2 (some (.int b.1), b.2))) (fun s s2 hs hP => tb_Da_easiest_5   s.1 s.2 (b := .inl s2) hs hP) (fun s hs => tb_Da_easiest_5   s.1 s.2 (b := .inr e6) hs hX7) _ _ he6) ⟨rfl, ⟨rfl, trivial⟩⟩
def j_Mo_isLess_33  (g : M2) : Option (Int32 × M2) := (bd (uJ g 157 34 (g.2 157 17)) fun g3 => (bd (uJ g3 157 35 (g3.2 157 18)) fun g4 => (bd (uJ g4 157 36 (g4.2 157 16)) fun g5 => some ((1 : Int32), g5))))
theorem tj_Mo_isLess_33 {Lx : Nat}    (g : M2) {b : (Int32 × M2)} (h : j_Mo_isLess_33  g = some b) : Ev Lx 257 cd_257 33 [some (.ref 157)] [] g (some (.int b.1), b.2) := by
  unfold j_Mo_isLess_33 at h
  refine ev_rn (n := 3) (i2 := 36) (L2 := [some (.ref 157)]) (st2 := [.long (g.2 157 17), .ref 157]) (g2 := g) cdE_257 rfl ?_
  refine bd_elim h (fun g3 hg3 h => ?_)
  refine ev_pf (g2 := g3) rfl (rfl : S0[157]? = some _) (by decide) (by rw [hg3] <;> rfl) ?_
  refine ev_rn (n := 3) (i2 := 40) (L2 := [some (.ref 157)]) (st2 := [.long (g3.2 157 18), .ref 157]) (g2 := g3) cdE_257 rfl ?_
  refine bd_elim h (fun g4 hg4 h => ?_)
  refine ev_pf (g2 := g4) rfl (rfl : S0[157]? = some _) (by decide) (by rw [hg4] <;> rfl) ?_
  refine ev_rn (n := 3) (i2 := 44) (L2 := [some (.ref 157)]) (st2 := [.long (g4.2 157 16), .ref 157]) (g2 := g4) cdE_257 rfl ?_
  refine bd_elim h (fun g5 hg5 h => ?_)
  refine ev_pf (g2 := g5) rfl (rfl : S0[157]? = some _) (by decide) (by rw [hg5] <;> rfl) ?_
  refine ev_rn (n := 1) (i2 := 46) (L2 := [some (.ref 157)]) (st2 := [.int (1 : Int32)]) (g2 := g5) cdE_257 rfl ?_
  cases h
  exact ev_ret rfl rt_1
def f_Mo_isLess (p0 : Int32) (g : M2) : Option (Int32 × M2) := (if (g.1 157 15) = 0 then some ((0 : Int32), g) else (if p0 = 0 then ((f_Mo_signOf (((g.2 157 17) * (g.2 157 36)) - ((g.2 157 34) * (g.2 157 16))) (((g.2 157 18) * (g.2 157 36)) - ((g.2 157 35) * (g.2 157 16))) g).bind fun q6 => (if q6 < 0 then (j_Mo_isLess_33  g) else some ((0 : Int32), g))) else (j_Mo_isLess_33  g)))
theorem e_Mo_isLess {Lx : Nat} (p0 : Int32)  (g : M2) {b : (Int32 × M2)} (h : f_Mo_isLess p0 g = some b) : Ev Lx 257 cd_257 0 [some (.ref 157), some (.int p0)] [] g (some (.int b.1), b.2) := by
  unfold f_Mo_isLess at h
  refine ev_rn (n := 2) (i2 := 2) (L2 := [some (.ref 157), some (.int p0)]) (st2 := [.int (g.1 157 15)]) (g2 := g) cdE_257 rfl ?_
  by_cases hc1 : (g.1 157 15) = 0
  · rw [if_pos hc1] at h
    refine ev_zff rfl (cn_f (fun q => q hc1)) ?_
    refine ev_rn (n := 1) (i2 := 4) (L2 := [some (.ref 157), some (.int p0)]) (st2 := [.int (0 : Int32)]) (g2 := g) cdE_257 rfl ?_
    cases h
    exact ev_ret rfl rt_0
  · rw [if_neg hc1] at h
    refine ev_zft cdE_257 rfl (cn_t hc1) ?_
    refine ev_rn (n := 1) (i2 := 6) (L2 := [some (.ref 157), some (.int p0)]) (st2 := [.int p0]) (g2 := g) cdE_257 rfl ?_
    by_cases hc2 : p0 = 0
    · rw [if_pos hc2] at h
      refine ev_zff rfl (cn_f (fun q => q hc2)) ?_
      refine ev_rn (n := 22) (i2 := 29) (L2 := [some (.ref 157), some (.int p0)]) (st2 := [.long (((g.2 157 18) * (g.2 157 36)) - ((g.2 157 35) * (g.2 157 16))), .long (((g.2 157 17) * (g.2 157 36)) - ((g.2 157 34) * (g.2 157 16)))]) (g2 := g) cdE_257 rfl ?_
      obtain ⟨q6, hq6, h⟩ := Option.bind_eq_some_iff.mp h
      refine ev_call rfl cdE_148 rfl rfl rfl (e_Mo_signOf (((g.2 157 17) * (g.2 157 36)) - ((g.2 157 34) * (g.2 157 16))) (((g.2 157 18) * (g.2 157 36)) - ((g.2 157 35) * (g.2 157 16)))  g hq6) ?_
      by_cases hc7 : q6 < 0
      · rw [if_pos hc7] at h
        refine ev_zft cdE_257 rfl (cn_t hc7) ?_
        exact ev_wk (L := [some (.ref 157)]) (tj_Mo_isLess_33    g h) ⟨rfl, trivial⟩
      · rw [if_neg hc7] at h
        refine ev_zff rfl (cn_f hc7) ?_
        refine ev_rn (n := 1) (i2 := 32) (L2 := [some (.ref 157), some (.int p0)]) (st2 := [.int (0 : Int32)]) (g2 := g) cdE_257 rfl ?_
        cases h
        exact ev_ret rfl rt_0
    · rw [if_neg hc2] at h
      refine ev_zft cdE_257 rfl (cn_t hc2) ?_
      exact ev_wk (L := [some (.ref 157)]) (tj_Mo_isLess_33    g h) ⟨rfl, trivial⟩
def b_Mo_easiest_4  (v1 : Int32) (v2 : Int32) (g : M2) : Option ((Int32 × Int32 × M2) ⊕ (Int32 × M2)) := (if (12 : Int32) ≤ v2 then some (.inr (v1, g)) else ((f_Mo_solvesWith (0 : Int32) v2 g).bind fun q2 => (if v1 = (-1 : Int32) then ((f_Mo_isLess (1 : Int32) q2).bind fun q6 => (if q6.1 = 0 then some (.inl (v1, (v2 + (1 : Int32)), q6.2)) else some (.inl (v2, (v2 + (1 : Int32)), q6.2)))) else ((f_Mo_isLess (0 : Int32) q2).bind fun q4 => (if q4.1 = 0 then some (.inl (v1, (v2 + (1 : Int32)), q4.2)) else some (.inl (v2, (v2 + (1 : Int32)), q4.2)))))))
theorem tb_Mo_easiest_4 {Lx : Nat}   (v1 : Int32) (v2 : Int32) (g : M2) {b : (Int32 × Int32 × M2) ⊕ (Int32 × M2)} {o : Option Value × M2} (h : b_Mo_easiest_4 v1 v2 g = some b) (hb : Sum.elim (fun s => Ev Lx 258 cd_258 4 [some (.ref 157), some (.int s.1), some (.int s.2.1)] [] s.2.2 o) (fun e => Ev Lx 258 cd_258 26 [none, some (.int e.1)] [] e.2 o) b) : Ev Lx 258 cd_258 4 [some (.ref 157), some (.int v1), some (.int v2)] [] g o := by
  unfold b_Mo_easiest_4 at h
  refine ev_rn (n := 2) (i2 := 6) (L2 := [some (.ref 157), some (.int v1), some (.int v2)]) (st2 := [.int (12 : Int32), .int v2]) (g2 := g) cdE_258 rfl ?_
  by_cases hc1 : (12 : Int32) ≤ v2
  · rw [if_pos hc1] at h
    refine ev_ift cdE_258 rfl (cn_t hc1) ?_
    cases h
    exact ev_wk (L := [none, some (.int v1)]) hb ⟨rfl, trivial⟩
  · rw [if_neg hc1] at h
    refine ev_iff rfl (cn_f hc1) ?_
    refine ev_rn (n := 3) (i2 := 10) (L2 := [some (.ref 157), some (.int v1), some (.int v2)]) (st2 := [.int v2, .int (0 : Int32), .ref 157]) (g2 := g) cdE_258 rfl ?_
    obtain ⟨q2, hq2, h⟩ := Option.bind_eq_some_iff.mp h
    refine ev_call rfl cdE_117 rfl rfl rfl (e_Mo_solvesWith (0 : Int32) v2  g hq2) ?_
    refine ev_rn (n := 3) (i2 := 14) (L2 := [some (.ref 157), some (.int v1), some (.int v2)]) (st2 := [.int (-1 : Int32), .int v1, .ref 157]) (g2 := q2) cdE_258 rfl ?_
    by_cases hc3 : v1 = (-1 : Int32)
    · rw [if_pos hc3] at h
      refine ev_iff rfl (cn_f (fun q => q hc3)) ?_
      refine ev_rn (n := 2) (i2 := 18) (L2 := [some (.ref 157), some (.int v1), some (.int v2)]) (st2 := [.int (1 : Int32), .ref 157]) (g2 := q2) cdE_258 rfl ?_
      obtain ⟨q6, hq6, h⟩ := Option.bind_eq_some_iff.mp h
      refine ev_call rfl cdE_257 rfl rfl rfl (e_Mo_isLess (1 : Int32)  q2 hq6) ?_
      by_cases hc7 : q6.1 = 0
      · rw [if_pos hc7] at h
        refine ev_zft cdE_258 rfl (cn_t hc7) ?_
        refine ev_rn (n := 3) (i2 := 25) (L2 := [some (.ref 157), some (.int v1), some (.int (v2 + (1 : Int32)))]) (st2 := []) (g2 := q6.2) cdE_258 rfl ?_
        refine ev_rn (n := 1) (i2 := 4) (L2 := [some (.ref 157), some (.int v1), some (.int (v2 + (1 : Int32)))]) (st2 := []) (g2 := q6.2) cdE_258 rfl ?_
        cases h
        exact ev_wk (L := [some (.ref 157), some (.int v1), some (.int (v2 + (1 : Int32)))]) hb ⟨rfl, ⟨rfl, ⟨rfl, trivial⟩⟩⟩
      · rw [if_neg hc7] at h
        refine ev_zff rfl (cn_f hc7) ?_
        refine ev_rn (n := 4) (i2 := 25) (L2 := [some (.ref 157), some (.int v2), some (.int (v2 + (1 : Int32)))]) (st2 := []) (g2 := q6.2) cdE_258 rfl ?_
        refine ev_rn (n := 1) (i2 := 4) (L2 := [some (.ref 157), some (.int v2), some (.int (v2 + (1 : Int32)))]) (st2 := []) (g2 := q6.2) cdE_258 rfl ?_
        cases h
        exact ev_wk (L := [some (.ref 157), some (.int v2), some (.int (v2 + (1 : Int32)))]) hb ⟨rfl, ⟨rfl, ⟨rfl, trivial⟩⟩⟩
    · rw [if_neg hc3] at h
      refine ev_ift cdE_258 rfl (cn_t hc3) ?_
      refine ev_rn (n := 1) (i2 := 18) (L2 := [some (.ref 157), some (.int v1), some (.int v2)]) (st2 := [.int (0 : Int32), .ref 157]) (g2 := q2) cdE_258 rfl ?_
      obtain ⟨q4, hq4, h⟩ := Option.bind_eq_some_iff.mp h
      refine ev_call rfl cdE_257 rfl rfl rfl (e_Mo_isLess (0 : Int32)  q2 hq4) ?_
      by_cases hc5 : q4.1 = 0
      · rw [if_pos hc5] at h
        refine ev_zft cdE_258 rfl (cn_t hc5) ?_
        refine ev_rn (n := 3) (i2 := 25) (L2 := [some (.ref 157), some (.int v1), some (.int (v2 + (1 : Int32)))]) (st2 := []) (g2 := q4.2) cdE_258 rfl ?_
        refine ev_rn (n := 1) (i2 := 4) (L2 := [some (.ref 157), some (.int v1), some (.int (v2 + (1 : Int32)))]) (st2 := []) (g2 := q4.2) cdE_258 rfl ?_
        cases h
        exact ev_wk (L := [some (.ref 157), some (.int v1), some (.int (v2 + (1 : Int32)))]) hb ⟨rfl, ⟨rfl, ⟨rfl, trivial⟩⟩⟩
      · rw [if_neg hc5] at h
        refine ev_zff rfl (cn_f hc5) ?_
        refine ev_rn (n := 4) (i2 := 25) (L2 := [some (.ref 157), some (.int v2), some (.int (v2 + (1 : Int32)))]) (st2 := []) (g2 := q4.2) cdE_258 rfl ?_
        refine ev_rn (n := 1) (i2 := 4) (L2 := [some (.ref 157), some (.int v2), some (.int (v2 + (1 : Int32)))]) (st2 := []) (g2 := q4.2) cdE_258 rfl ?_
        cases h
        exact ev_wk (L := [some (.ref 157), some (.int v2), some (.int (v2 + (1 : Int32)))]) hb ⟨rfl, ⟨rfl, ⟨rfl, trivial⟩⟩⟩
def f_Mo_easiest  (g : M2) : Option (Int32 × M2) := ((lp (fun s => b_Mo_easiest_4  s.1 s.2.1 s.2.2) 5000 ((-1 : Int32), (0 : Int32), g)).bind fun e8 => some (e8.1, e8.2))
theorem e_Mo_easiest {Lx : Nat}   (g : M2) {b : (Int32 × M2)} (h : f_Mo_easiest  g = some b) : Ev Lx 258 cd_258 0 [some (.ref 157)] [] g (some (.int b.1), b.2) := by
  unfold f_Mo_easiest at h
  refine ev_rn (n := 4) (i2 := 4) (L2 := [some (.ref 157), some (.int (-1 : Int32)), some (.int (0 : Int32))]) (st2 := []) (g2 := g) cdE_258 rfl ?_
  obtain ⟨e8, he8, h⟩ := Option.bind_eq_some_iff.mp h
  have hX9 : Ev Lx 258 cd_258 26 [none, some (.int e8.1)] [] e8.2 (some (.int b.1), b.2) := by
    refine ev_rn (n := 1) (i2 := 27) (L2 := [none, some (.int e8.1)]) (st2 := [.int e8.1]) (g2 := e8.2) cdE_258 rfl ?_
    cases h
    exact ev_ret rfl rfl
  exact ev_wk (L := [some (.ref 157), some (.int (-1 : Int32)), some (.int (0 : Int32))]) (lp_ind (P := (fun (s : (Int32 × Int32 × M2)) => Ev Lx 258 cd_258 4 [some (.ref 157), some (.int s.1), some (.int s.2.1)] [] s.2.2 (some (.int b.1), b.2))) (fun s s2 hs hP => tb_Mo_easiest_4   s.1 s.2.1 s.2.2 (b := .inl s2) hs hP) (fun s hs => tb_Mo_easiest_4   s.1 s.2.1 s.2.2 (b := .inr e8) hs hX9) _ _ he8) ⟨rfl, ⟨rfl, ⟨rfl, trivial⟩⟩⟩
def b_Da_holdsDeafTo_9 (v1 : Int32) (v2 : Int32) (g : M2) : Option ((Int32 × M2) ⊕ M2) := (if (12 : Int32) ≤ v2 then some (.inr g) else (if ((v1 >>> (v2 &&& 31)) &&& (1 : Int32)) = 0 then some (.inl ((v2 + (1 : Int32)), g)) else ((f_Pl_addDeaf 73 v2 g).bind fun q4 => some (.inl ((v2 + (1 : Int32)), q4)))))
theorem tb_Da_holdsDeafTo_9 {Lx : Nat} (v1 : Int32)  (v2 : Int32) (g : M2) {b : (Int32 × M2) ⊕ M2} {o : Option Value × M2} (h : b_Da_holdsDeafTo_9 v1 v2 g = some b) (hb : Sum.elim (fun s => Ev Lx 259 cd_259 9 [some (.ref 0), some (.int v1), some (.int s.1)] [] s.2 o) (fun e => Ev Lx 259 cd_259 25 [some (.ref 0)] [] e o) b) : Ev Lx 259 cd_259 9 [some (.ref 0), some (.int v1), some (.int v2)] [] g o := by
  unfold b_Da_holdsDeafTo_9 at h
  refine ev_rn (n := 2) (i2 := 11) (L2 := [some (.ref 0), some (.int v1), some (.int v2)]) (st2 := [.int (12 : Int32), .int v2]) (g2 := g) cdE_259 rfl ?_
  by_cases hc2 : (12 : Int32) ≤ v2
  · rw [if_pos hc2] at h
    refine ev_ift cdE_259 rfl (cn_t hc2) ?_
    cases h
    exact ev_wk (L := [some (.ref 0)]) hb ⟨rfl, trivial⟩
  · rw [if_neg hc2] at h
    refine ev_iff rfl (cn_f hc2) ?_
    refine ev_rn (n := 5) (i2 := 17) (L2 := [some (.ref 0), some (.int v1), some (.int v2)]) (st2 := [.int ((v1 >>> (v2 &&& 31)) &&& (1 : Int32))]) (g2 := g) cdE_259 rfl ?_
    by_cases hc3 : ((v1 >>> (v2 &&& 31)) &&& (1 : Int32)) = 0
    · rw [if_pos hc3] at h
      refine ev_zft cdE_259 rfl (cn_t hc3) ?_
      refine ev_rn (n := 2) (i2 := 9) (L2 := [some (.ref 0), some (.int v1), some (.int (v2 + (1 : Int32)))]) (st2 := []) (g2 := g) cdE_259 rfl ?_
      cases h
      exact ev_wk (L := [some (.ref 0), some (.int v1), some (.int (v2 + (1 : Int32)))]) hb ⟨rfl, ⟨rfl, ⟨rfl, trivial⟩⟩⟩
    · rw [if_neg hc3] at h
      refine ev_zff rfl (cn_f hc3) ?_
      refine ev_rn (n := 4) (i2 := 22) (L2 := [some (.ref 0), some (.int v1), some (.int v2)]) (st2 := [.int v2, .ref 73]) (g2 := g) cdE_259 rfl ?_
      obtain ⟨q4, hq4, h⟩ := Option.bind_eq_some_iff.mp h
      refine ev_call rfl cdE_35 rfl rfl rfl (e_Pl_addDeaf 73 v2 (by decide) g hq4) ?_
      refine ev_rn (n := 2) (i2 := 9) (L2 := [some (.ref 0), some (.int v1), some (.int (v2 + (1 : Int32)))]) (st2 := []) (g2 := q4) cdE_259 rfl ?_
      cases h
      exact ev_wk (L := [some (.ref 0), some (.int v1), some (.int (v2 + (1 : Int32)))]) hb ⟨rfl, ⟨rfl, ⟨rfl, trivial⟩⟩⟩
def f_Da_holdsDeafTo (p0 : Int32) (g : M2) : Option (Int32 × M2) := ((f_Pl_copy 73 7 g).bind fun q1 => ((lp (fun s => b_Da_holdsDeafTo_9 p0 s.1 s.2) 5000 ((0 : Int32), q1)).bind fun e5 => ((f_So_solve 72 e5).bind fun q6 => some (((q6.1 72 13) &&& 1), q6))))
theorem e_Da_holdsDeafTo {Lx : Nat} (p0 : Int32)  (g : M2) {b : (Int32 × M2)} (h : f_Da_holdsDeafTo p0 g = some b) : Ev Lx 259 cd_259 0 [some (.ref 0), some (.int p0)] [] g (some (.int b.1), b.2) := by
  unfold f_Da_holdsDeafTo at h
  refine ev_rn (n := 6) (i2 := 6) (L2 := [some (.ref 0), some (.int p0)]) (st2 := [.ref 7, .ref 73]) (g2 := g) cdE_259 rfl ?_
  obtain ⟨q1, hq1, h⟩ := Option.bind_eq_some_iff.mp h
  refine ev_call rfl cdE_40 rfl rfl rfl (e_Pl_copy 73 7 (by decide) (by decide) g hq1) ?_
  refine ev_rn (n := 2) (i2 := 9) (L2 := [some (.ref 0), some (.int p0), some (.int (0 : Int32))]) (st2 := []) (g2 := q1) cdE_259 rfl ?_
  obtain ⟨e5, he5, h⟩ := Option.bind_eq_some_iff.mp h
  have hX7 : Ev Lx 259 cd_259 25 [some (.ref 0)] [] e5 (some (.int b.1), b.2) := by
    refine ev_rn (n := 2) (i2 := 27) (L2 := [some (.ref 0)]) (st2 := [.ref 72]) (g2 := e5) cdE_259 rfl ?_
    obtain ⟨q6, hq6, h⟩ := Option.bind_eq_some_iff.mp h
    refine ev_call rfl cdE_95 rfl rfl rfl (e_So_solve 72 (by decide) e5 hq6) ?_
    refine ev_rn (n := 3) (i2 := 31) (L2 := [some (.ref 0)]) (st2 := [.int (q6.1 72 13)]) (g2 := q6) cdE_259 rfl ?_
    cases h
    exact ev_ret rfl rfl
  exact ev_wk (L := [some (.ref 0), some (.int p0), some (.int (0 : Int32))]) (lp_ind (P := (fun (s : (Int32 × M2)) => Ev Lx 259 cd_259 9 [some (.ref 0), some (.int p0), some (.int s.1)] [] s.2 (some (.int b.1), b.2))) (fun s s2 hs hP => tb_Da_holdsDeafTo_9 p0  s.1 s.2 (b := .inl s2) hs hP) (fun s hs => tb_Da_holdsDeafTo_9 p0  s.1 s.2 (b := .inr e5) hs hX7) _ _ he5) ⟨rfl, ⟨rfl, ⟨rfl, trivial⟩⟩⟩
def b_Da_deafer_26 (v1 : Int32) (v2 : Int32) (g : M2) : Option ((Int32 × M2) ⊕ M2) := (if (12 : Int32) ≤ v2 then some (.inr g) else (if ((v1 >>> (v2 &&& 31)) &&& (1 : Int32)) = 0 then ((f_Da_holdsDeafTo ((1 : Int32) <<< (v2 &&& 31)) g).bind fun q8 => (if q8.1 = 0 then some (.inl ((v2 + (1 : Int32)), q8.2)) else ((f_Le_offer 72 v2 q8.2).bind fun q10 => some (.inl ((v2 + (1 : Int32)), q10))))) else some (.inl ((v2 + (1 : Int32)), g))))
theorem tb_Da_deafer_26 {Lx : Nat} (v1 : Int32)  (v2 : Int32) (g : M2) {b : (Int32 × M2) ⊕ M2} {o : Option Value × M2} (h : b_Da_deafer_26 v1 v2 g = some b) (hb : Sum.elim (fun s => Ev Lx 260 cd_260 26 [some (.ref 0), some (.int v1), some (.int s.1)] [] s.2 o) (fun e => Ev Lx 260 cd_260 49 [some (.ref 0)] [] e o) b) : Ev Lx 260 cd_260 26 [some (.ref 0), some (.int v1), some (.int v2)] [] g o := by
  unfold b_Da_deafer_26 at h
  refine ev_rn (n := 2) (i2 := 28) (L2 := [some (.ref 0), some (.int v1), some (.int v2)]) (st2 := [.int (12 : Int32), .int v2]) (g2 := g) cdE_260 rfl ?_
  by_cases hc6 : (12 : Int32) ≤ v2
  · rw [if_pos hc6] at h
    refine ev_ift cdE_260 rfl (cn_t hc6) ?_
    cases h
    exact ev_wk (L := [some (.ref 0)]) hb ⟨rfl, trivial⟩
  · rw [if_neg hc6] at h
    refine ev_iff rfl (cn_f hc6) ?_
    refine ev_rn (n := 5) (i2 := 34) (L2 := [some (.ref 0), some (.int v1), some (.int v2)]) (st2 := [.int ((v1 >>> (v2 &&& 31)) &&& (1 : Int32))]) (g2 := g) cdE_260 rfl ?_
    by_cases hc7 : ((v1 >>> (v2 &&& 31)) &&& (1 : Int32)) = 0
    · rw [if_pos hc7] at h
      refine ev_zff rfl (cn_f (fun q => q hc7)) ?_
      refine ev_rn (n := 4) (i2 := 39) (L2 := [some (.ref 0), some (.int v1), some (.int v2)]) (st2 := [.int ((1 : Int32) <<< (v2 &&& 31)), .ref 0]) (g2 := g) cdE_260 rfl ?_
      obtain ⟨q8, hq8, h⟩ := Option.bind_eq_some_iff.mp h
      refine ev_call rfl cdE_259 rfl rfl rfl (e_Da_holdsDeafTo ((1 : Int32) <<< (v2 &&& 31))  g hq8) ?_
      by_cases hc9 : q8.1 = 0
      · rw [if_pos hc9] at h
        refine ev_zft cdE_260 rfl (cn_t hc9) ?_
        refine ev_rn (n := 2) (i2 := 26) (L2 := [some (.ref 0), some (.int v1), some (.int (v2 + (1 : Int32)))]) (st2 := []) (g2 := q8.2) cdE_260 rfl ?_
        cases h
        exact ev_wk (L := [some (.ref 0), some (.int v1), some (.int (v2 + (1 : Int32)))]) hb ⟨rfl, ⟨rfl, ⟨rfl, trivial⟩⟩⟩
      · rw [if_neg hc9] at h
        refine ev_zff rfl (cn_f hc9) ?_
        refine ev_rn (n := 5) (i2 := 46) (L2 := [some (.ref 0), some (.int v1), some (.int v2)]) (st2 := [.int v2, .ref 72, .ref 151]) (g2 := q8.2) cdE_260 rfl ?_
        obtain ⟨q10, hq10, h⟩ := Option.bind_eq_some_iff.mp h
        refine ev_call rfl cdE_255 rfl rfl rfl (e_Le_offer 72 v2 (by decide) q8.2 hq10) ?_
        refine ev_rn (n := 2) (i2 := 26) (L2 := [some (.ref 0), some (.int v1), some (.int (v2 + (1 : Int32)))]) (st2 := []) (g2 := q10) cdE_260 rfl ?_
        cases h
        exact ev_wk (L := [some (.ref 0), some (.int v1), some (.int (v2 + (1 : Int32)))]) hb ⟨rfl, ⟨rfl, ⟨rfl, trivial⟩⟩⟩
    · rw [if_neg hc7] at h
      refine ev_zft cdE_260 rfl (cn_t hc7) ?_
      refine ev_rn (n := 2) (i2 := 26) (L2 := [some (.ref 0), some (.int v1), some (.int (v2 + (1 : Int32)))]) (st2 := []) (g2 := g) cdE_260 rfl ?_
      cases h
      exact ev_wk (L := [some (.ref 0), some (.int v1), some (.int (v2 + (1 : Int32)))]) hb ⟨rfl, ⟨rfl, ⟨rfl, trivial⟩⟩⟩
def f_Da_deafer  (g : M2) : Option (Int32 × M2) := ((f_Da_refresh g).bind fun q1 => (if (q1.1 6 13) = 0 then some ((-2 : Int32), q1) else ((f_Le_clear q1).bind fun q3 => (if (q3.1 7 5) = (4 : Int32) then some ((-1 : Int32), q3) else ((f_Pl_wishBits 7 q3).bind fun q5 => ((lp (fun s => b_Da_deafer_26 q5 s.1 s.2) 5000 ((0 : Int32), q3)).bind fun e11 => some ((e11.1 151 0), e11)))))))
theorem e_Da_deafer {Lx : Nat}   (g : M2) {b : (Int32 × M2)} (h : f_Da_deafer  g = some b) : Ev Lx 260 cd_260 0 [some (.ref 0)] [] g (some (.int b.1), b.2) := by
  unfold f_Da_deafer at h
  refine ev_rn (n := 1) (i2 := 1) (L2 := [some (.ref 0)]) (st2 := [.ref 0]) (g2 := g) cdE_260 rfl ?_
  obtain ⟨q1, hq1, h⟩ := Option.bind_eq_some_iff.mp h
  refine ev_call rfl cdE_100 rfl rfl rfl (e_Da_refresh   g hq1) ?_
  refine ev_rn (n := 3) (i2 := 5) (L2 := [some (.ref 0)]) (st2 := [.int (q1.1 6 13)]) (g2 := q1) cdE_260 rfl ?_
  by_cases hc2 : (q1.1 6 13) = 0
  · rw [if_pos hc2] at h
    refine ev_zff rfl (cn_f (fun q => q hc2)) ?_
    refine ev_rn (n := 1) (i2 := 7) (L2 := [some (.ref 0)]) (st2 := [.int (-2 : Int32)]) (g2 := q1) cdE_260 rfl ?_
    cases h
    exact ev_ret rfl rfl
  · rw [if_neg hc2] at h
    refine ev_zft cdE_260 rfl (cn_t hc2) ?_
    refine ev_rn (n := 2) (i2 := 10) (L2 := [some (.ref 0)]) (st2 := [.ref 151]) (g2 := q1) cdE_260 rfl ?_
    obtain ⟨q3, hq3, h⟩ := Option.bind_eq_some_iff.mp h
    refine ev_call rfl cdE_254 rfl rfl rfl (e_Le_clear   q1 hq3) ?_
    refine ev_rn (n := 5) (i2 := 16) (L2 := [some (.ref 0)]) (st2 := [.int (4 : Int32), .int (q3.1 7 5)]) (g2 := q3) cdE_260 rfl ?_
    by_cases hc4 : (q3.1 7 5) = (4 : Int32)
    · rw [if_pos hc4] at h
      refine ev_iff rfl (cn_f (fun q => q hc4)) ?_
      refine ev_rn (n := 1) (i2 := 18) (L2 := [some (.ref 0)]) (st2 := [.int (-1 : Int32)]) (g2 := q3) cdE_260 rfl ?_
      cases h
      exact ev_ret rfl rfl
    · rw [if_neg hc4] at h
      refine ev_ift cdE_260 rfl (cn_t hc4) ?_
      refine ev_rn (n := 3) (i2 := 22) (L2 := [some (.ref 0)]) (st2 := [.ref 7]) (g2 := q3) cdE_260 rfl ?_
      obtain ⟨q5, hq5, h⟩ := Option.bind_eq_some_iff.mp h
      refine ev_call rfl cdE_32 rfl rfl rfl (e_Pl_wishBits 7 (by decide) q3 hq5) ?_
      refine ev_rn (n := 3) (i2 := 26) (L2 := [some (.ref 0), some (.int q5), some (.int (0 : Int32))]) (st2 := []) (g2 := q3) cdE_260 rfl ?_
      obtain ⟨e11, he11, h⟩ := Option.bind_eq_some_iff.mp h
      have hX12 : Ev Lx 260 cd_260 49 [some (.ref 0)] [] e11 (some (.int b.1), b.2) := by
        refine ev_rn (n := 3) (i2 := 52) (L2 := [some (.ref 0)]) (st2 := [.int (e11.1 151 0)]) (g2 := e11) cdE_260 rfl ?_
        cases h
        exact ev_ret rfl rfl
      exact ev_wk (L := [some (.ref 0), some (.int q5), some (.int (0 : Int32))]) (lp_ind (P := (fun (s : (Int32 × M2)) => Ev Lx 260 cd_260 26 [some (.ref 0), some (.int q5), some (.int s.1)] [] s.2 (some (.int b.1), b.2))) (fun s s2 hs hP => tb_Da_deafer_26 q5  s.1 s.2 (b := .inl s2) hs hP) (fun s hs => tb_Da_deafer_26 q5  s.1 s.2 (b := .inr e11) hs hX12) _ _ he11) ⟨rfl, ⟨rfl, ⟨rfl, trivial⟩⟩⟩
def b_Mo_deafer_17  (v1 : Int32) (v2 : Int32) (g : M2) : Option ((Int32 × Int32 × M2) ⊕ (Int32 × M2)) := (if (12 : Int32) ≤ v2 then some (.inr (v1, g)) else ((f_Mo_lookNow g).bind fun q5 => (if v2 = q5 then some (.inl (v1, (v2 + (1 : Int32)), g)) else ((f_Mo_deafAt v2 g).bind fun q7 => (if q7 = (-1 : Int32) then ((f_Mo_laysElements (0 : Int32) g).bind fun q9 => ((f_Mo_lookNow q9).bind fun q10 => ((f_Mo_laysWishes q10 q9).bind fun q11 => (if inb (q11.1 157 10) 5 then (bd (uI q11 163 (q11.1 157 10).toNatClampNeg v2) fun g12 => (bd (uI g12 157 10 ((g12.1 157 10) + (1 : Int32))) fun g13 => ((f_Mo_solves g13).bind fun q14 => (if v1 = (-1 : Int32) then ((f_Mo_isLess (1 : Int32) q14).bind fun q18 => (if q18.1 = 0 then some (.inl (v1, (v2 + (1 : Int32)), q18.2)) else some (.inl (v2, (v2 + (1 : Int32)), q18.2)))) else ((f_Mo_isLess (0 : Int32) q14).bind fun q16 => (if q16.1 = 0 then some (.inl (v1, (v2 + (1 : Int32)), q16.2)) else some (.inl (v2, (v2 + (1 : Int32)), q16.2)))))))) else none)))) else some (.inl (v1, (v2 + (1 : Int32)), g)))))))
theorem tb_Mo_deafer_17 {Lx : Nat}   (v1 : Int32) (v2 : Int32) (g : M2) {b : (Int32 × Int32 × M2) ⊕ (Int32 × M2)} {o : Option Value × M2} (h : b_Mo_deafer_17 v1 v2 g = some b) (hb : Sum.elim (fun s => Ev Lx 261 cd_261 17 [some (.ref 157), some (.int s.1), some (.int s.2.1)] [] s.2.2 o) (fun e => Ev Lx 261 cd_261 66 [none, some (.int e.1)] [] e.2 o) b) : Ev Lx 261 cd_261 17 [some (.ref 157), some (.int v1), some (.int v2)] [] g o := by
  unfold b_Mo_deafer_17 at h
  refine ev_rn (n := 2) (i2 := 19) (L2 := [some (.ref 157), some (.int v1), some (.int v2)]) (st2 := [.int (12 : Int32), .int v2]) (g2 := g) cdE_261 rfl ?_
  by_cases hc4 : (12 : Int32) ≤ v2
  · rw [if_pos hc4] at h
    refine ev_ift cdE_261 rfl (cn_t hc4) ?_
    cases h
    exact ev_wk (L := [none, some (.int v1)]) hb ⟨rfl, trivial⟩
  · rw [if_neg hc4] at h
    refine ev_iff rfl (cn_f hc4) ?_
    refine ev_rn (n := 2) (i2 := 22) (L2 := [some (.ref 157), some (.int v1), some (.int v2)]) (st2 := [.ref 157, .int v2]) (g2 := g) cdE_261 rfl ?_
    obtain ⟨q5, hq5, h⟩ := Option.bind_eq_some_iff.mp h
    refine ev_call rfl cdE_63 rfl rfl rfl (e_Mo_lookNow   g hq5) ?_
    by_cases hc6 : v2 = q5
    · rw [if_pos hc6] at h
      refine ev_ift cdE_261 rfl (cn_t hc6) ?_
      refine ev_rn (n := 2) (i2 := 17) (L2 := [some (.ref 157), some (.int v1), some (.int (v2 + (1 : Int32)))]) (st2 := []) (g2 := g) cdE_261 rfl ?_
      cases h
      exact ev_wk (L := [some (.ref 157), some (.int v1), some (.int (v2 + (1 : Int32)))]) hb ⟨rfl, ⟨rfl, ⟨rfl, trivial⟩⟩⟩
    · rw [if_neg hc6] at h
      refine ev_iff rfl (cn_f hc6) ?_
      refine ev_rn (n := 2) (i2 := 26) (L2 := [some (.ref 157), some (.int v1), some (.int v2)]) (st2 := [.int v2, .ref 157]) (g2 := g) cdE_261 rfl ?_
      obtain ⟨q7, hq7, h⟩ := Option.bind_eq_some_iff.mp h
      refine ev_call rfl cdE_182 rfl rfl rfl (e_Mo_deafAt v2  g hq7) ?_
      refine ev_rn (n := 1) (i2 := 28) (L2 := [some (.ref 157), some (.int v1), some (.int v2)]) (st2 := [.int (-1 : Int32), .int q7]) (g2 := g) cdE_261 rfl ?_
      by_cases hc8 : q7 = (-1 : Int32)
      · rw [if_pos hc8] at h
        refine ev_ift cdE_261 rfl (cn_t hc8) ?_
        refine ev_rn (n := 2) (i2 := 32) (L2 := [some (.ref 157), some (.int v1), some (.int v2)]) (st2 := [.int (0 : Int32), .ref 157]) (g2 := g) cdE_261 rfl ?_
        obtain ⟨q9, hq9, h⟩ := Option.bind_eq_some_iff.mp h
        refine ev_call rfl cdE_102 rfl rfl rfl (e_Mo_laysElements (0 : Int32)  g hq9) ?_
        refine ev_rn (n := 2) (i2 := 35) (L2 := [some (.ref 157), some (.int v1), some (.int v2)]) (st2 := [.ref 157, .ref 157]) (g2 := q9) cdE_261 rfl ?_
        obtain ⟨q10, hq10, h⟩ := Option.bind_eq_some_iff.mp h
        refine ev_call rfl cdE_63 rfl rfl rfl (e_Mo_lookNow   q9 hq10) ?_
        obtain ⟨q11, hq11, h⟩ := Option.bind_eq_some_iff.mp h
        refine ev_call rfl cdE_103 rfl rfl rfl (e_Mo_laysWishes q10  q9 hq11) ?_
        refine ev_rn (n := 5) (i2 := 42) (L2 := [some (.ref 157), some (.int v1), some (.int v2)]) (st2 := [.int v2, .int (q11.1 157 10), .ref 163]) (g2 := q11) cdE_261 rfl ?_
        by_cases hi20 : inb (q11.1 157 10) 5
        · rw [if_pos hi20] at h
          refine bd_elim h (fun g12 hg12 h => ?_)
          refine ev_iastore (g2 := g12) rfl (show S0[163]? = some (100, 5, List.replicate 5 none) from rfl) (by decide) hi20 (by rw [hg12] <;> rfl) ?_
          refine ev_rn (n := 5) (i2 := 48) (L2 := [some (.ref 157), some (.int v1), some (.int v2)]) (st2 := [.int ((g12.1 157 10) + (1 : Int32)), .ref 157]) (g2 := g12) cdE_261 rfl ?_
          refine bd_elim h (fun g13 hg13 h => ?_)
          refine ev_pf (g2 := g13) rfl (rfl : S0[157]? = some _) (by decide) (by rw [hg13] <;> rfl) ?_
          refine ev_rn (n := 1) (i2 := 50) (L2 := [some (.ref 157), some (.int v1), some (.int v2)]) (st2 := [.ref 157]) (g2 := g13) cdE_261 rfl ?_
          obtain ⟨q14, hq14, h⟩ := Option.bind_eq_some_iff.mp h
          refine ev_call rfl cdE_116 rfl rfl rfl (e_Mo_solves   g13 hq14) ?_
          refine ev_rn (n := 3) (i2 := 54) (L2 := [some (.ref 157), some (.int v1), some (.int v2)]) (st2 := [.int (-1 : Int32), .int v1, .ref 157]) (g2 := q14) cdE_261 rfl ?_
          by_cases hc15 : v1 = (-1 : Int32)
          · rw [if_pos hc15] at h
            refine ev_iff rfl (cn_f (fun q => q hc15)) ?_
            refine ev_rn (n := 2) (i2 := 58) (L2 := [some (.ref 157), some (.int v1), some (.int v2)]) (st2 := [.int (1 : Int32), .ref 157]) (g2 := q14) cdE_261 rfl ?_
            obtain ⟨q18, hq18, h⟩ := Option.bind_eq_some_iff.mp h
            refine ev_call rfl cdE_257 rfl rfl rfl (e_Mo_isLess (1 : Int32)  q14 hq18) ?_
            by_cases hc19 : q18.1 = 0
            · rw [if_pos hc19] at h
              refine ev_zft cdE_261 rfl (cn_t hc19) ?_
              refine ev_rn (n := 3) (i2 := 65) (L2 := [some (.ref 157), some (.int v1), some (.int (v2 + (1 : Int32)))]) (st2 := []) (g2 := q18.2) cdE_261 rfl ?_
              refine ev_rn (n := 1) (i2 := 17) (L2 := [some (.ref 157), some (.int v1), some (.int (v2 + (1 : Int32)))]) (st2 := []) (g2 := q18.2) cdE_261 rfl ?_
              cases h
              exact ev_wk (L := [some (.ref 157), some (.int v1), some (.int (v2 + (1 : Int32)))]) hb ⟨rfl, ⟨rfl, ⟨rfl, trivial⟩⟩⟩
            · rw [if_neg hc19] at h
              refine ev_zff rfl (cn_f hc19) ?_
              refine ev_rn (n := 4) (i2 := 65) (L2 := [some (.ref 157), some (.int v2), some (.int (v2 + (1 : Int32)))]) (st2 := []) (g2 := q18.2) cdE_261 rfl ?_
              refine ev_rn (n := 1) (i2 := 17) (L2 := [some (.ref 157), some (.int v2), some (.int (v2 + (1 : Int32)))]) (st2 := []) (g2 := q18.2) cdE_261 rfl ?_
              cases h
              exact ev_wk (L := [some (.ref 157), some (.int v2), some (.int (v2 + (1 : Int32)))]) hb ⟨rfl, ⟨rfl, ⟨rfl, trivial⟩⟩⟩
          · rw [if_neg hc15] at h
            refine ev_ift cdE_261 rfl (cn_t hc15) ?_
            refine ev_rn (n := 1) (i2 := 58) (L2 := [some (.ref 157), some (.int v1), some (.int v2)]) (st2 := [.int (0 : Int32), .ref 157]) (g2 := q14) cdE_261 rfl ?_
            obtain ⟨q16, hq16, h⟩ := Option.bind_eq_some_iff.mp h
            refine ev_call rfl cdE_257 rfl rfl rfl (e_Mo_isLess (0 : Int32)  q14 hq16) ?_
            by_cases hc17 : q16.1 = 0
            · rw [if_pos hc17] at h
              refine ev_zft cdE_261 rfl (cn_t hc17) ?_
              refine ev_rn (n := 3) (i2 := 65) (L2 := [some (.ref 157), some (.int v1), some (.int (v2 + (1 : Int32)))]) (st2 := []) (g2 := q16.2) cdE_261 rfl ?_
              refine ev_rn (n := 1) (i2 := 17) (L2 := [some (.ref 157), some (.int v1), some (.int (v2 + (1 : Int32)))]) (st2 := []) (g2 := q16.2) cdE_261 rfl ?_
              cases h
              exact ev_wk (L := [some (.ref 157), some (.int v1), some (.int (v2 + (1 : Int32)))]) hb ⟨rfl, ⟨rfl, ⟨rfl, trivial⟩⟩⟩
            · rw [if_neg hc17] at h
              refine ev_zff rfl (cn_f hc17) ?_
              refine ev_rn (n := 4) (i2 := 65) (L2 := [some (.ref 157), some (.int v2), some (.int (v2 + (1 : Int32)))]) (st2 := []) (g2 := q16.2) cdE_261 rfl ?_
              refine ev_rn (n := 1) (i2 := 17) (L2 := [some (.ref 157), some (.int v2), some (.int (v2 + (1 : Int32)))]) (st2 := []) (g2 := q16.2) cdE_261 rfl ?_
              cases h
              exact ev_wk (L := [some (.ref 157), some (.int v2), some (.int (v2 + (1 : Int32)))]) hb ⟨rfl, ⟨rfl, ⟨rfl, trivial⟩⟩⟩
        · rw [if_neg hi20] at h
          cases h
      · rw [if_neg hc8] at h
        refine ev_iff rfl (cn_f hc8) ?_
        refine ev_rn (n := 3) (i2 := 17) (L2 := [some (.ref 157), some (.int v1), some (.int (v2 + (1 : Int32)))]) (st2 := []) (g2 := g) cdE_261 rfl ?_
        cases h
        exact ev_wk (L := [some (.ref 157), some (.int v1), some (.int (v2 + (1 : Int32)))]) hb ⟨rfl, ⟨rfl, ⟨rfl, trivial⟩⟩⟩
def f_Mo_deafer  (g : M2) : Option (Int32 × M2) := ((f_Mo_canNow g).bind fun q1 => (if q1.1 = 0 then some ((-2 : Int32), q1.2) else (if (q1.2.1 160 13) = (4 : Int32) then some ((-1 : Int32), q1.2) else ((lp (fun s => b_Mo_deafer_17  s.1 s.2.1 s.2.2) 5000 ((-1 : Int32), (0 : Int32), q1.2)).bind fun e21 => some (e21.1, e21.2)))))
theorem e_Mo_deafer {Lx : Nat}   (g : M2) {b : (Int32 × M2)} (h : f_Mo_deafer  g = some b) : Ev Lx 261 cd_261 0 [some (.ref 157)] [] g (some (.int b.1), b.2) := by
  unfold f_Mo_deafer at h
  refine ev_rn (n := 1) (i2 := 1) (L2 := [some (.ref 157)]) (st2 := [.ref 157]) (g2 := g) cdE_261 rfl ?_
  obtain ⟨q1, hq1, h⟩ := Option.bind_eq_some_iff.mp h
  refine ev_call rfl cdE_118 rfl rfl rfl (e_Mo_canNow   g hq1) ?_
  by_cases hc2 : q1.1 = 0
  · rw [if_pos hc2] at h
    refine ev_zff rfl (cn_f (fun q => q hc2)) ?_
    refine ev_rn (n := 1) (i2 := 4) (L2 := [some (.ref 157)]) (st2 := [.int (-2 : Int32)]) (g2 := q1.2) cdE_261 rfl ?_
    cases h
    exact ev_ret rfl rfl
  · rw [if_neg hc2] at h
    refine ev_zft cdE_261 rfl (cn_t hc2) ?_
    refine ev_rn (n := 3) (i2 := 8) (L2 := [some (.ref 157)]) (st2 := [.int (13 : Int32), .ref 160]) (g2 := q1.2) cdE_261 rfl ?_
    refine ev_iaload (v := .int (q1.2.1 160 13)) rfl (kd_of (show S0[160]? = some (100, 19, List.replicate 19 none) from rfl)) (by decide) ⟨by decide, by decide⟩ rfl ?_
    refine ev_rn (n := 1) (i2 := 10) (L2 := [some (.ref 157)]) (st2 := [.int (4 : Int32), .int (q1.2.1 160 13)]) (g2 := q1.2) cdE_261 rfl ?_
    by_cases hc3 : (q1.2.1 160 13) = (4 : Int32)
    · rw [if_pos hc3] at h
      refine ev_iff rfl (cn_f (fun q => q hc3)) ?_
      refine ev_rn (n := 1) (i2 := 12) (L2 := [some (.ref 157)]) (st2 := [.int (-1 : Int32)]) (g2 := q1.2) cdE_261 rfl ?_
      cases h
      exact ev_ret rfl rfl
    · rw [if_neg hc3] at h
      refine ev_ift cdE_261 rfl (cn_t hc3) ?_
      refine ev_rn (n := 4) (i2 := 17) (L2 := [some (.ref 157), some (.int (-1 : Int32)), some (.int (0 : Int32))]) (st2 := []) (g2 := q1.2) cdE_261 rfl ?_
      obtain ⟨e21, he21, h⟩ := Option.bind_eq_some_iff.mp h
      have hX22 : Ev Lx 261 cd_261 66 [none, some (.int e21.1)] [] e21.2 (some (.int b.1), b.2) := by
        refine ev_rn (n := 1) (i2 := 67) (L2 := [none, some (.int e21.1)]) (st2 := [.int e21.1]) (g2 := e21.2) cdE_261 rfl ?_
        cases h
        exact ev_ret rfl rfl
      exact ev_wk (L := [some (.ref 157), some (.int (-1 : Int32)), some (.int (0 : Int32))]) (lp_ind (P := (fun (s : (Int32 × Int32 × M2)) => Ev Lx 261 cd_261 17 [some (.ref 157), some (.int s.1), some (.int s.2.1)] [] s.2.2 (some (.int b.1), b.2))) (fun s s2 hs hP => tb_Mo_deafer_17   s.1 s.2.1 s.2.2 (b := .inl s2) hs hP) (fun s hs => tb_Mo_deafer_17   s.1 s.2.1 s.2.2 (b := .inr e21) hs hX22) _ _ he21) ⟨rfl, ⟨rfl, ⟨rfl, trivial⟩⟩⟩
def b_Da_leastSeal_17 (v1 : Int32) (v2 : Int32) (v3 : Int32) (v4 : Int32) (v5 : Int32) (g : M2) : Option ((Int32 × M2) ⊕ (M2 ⊕ (Int32 × M2))) := (if (4095 : Int32) < v5 then some (.inr (.inl g)) else (if (f_In_bitCount v5 g) = v4 then (if (v5 &&& v3) = 0 then ((f_Da_holdsDeafTo v5 g).bind fun q6 => (if q6.1 = 0 then some (.inl ((v5 + (1 : Int32)), q6.2)) else ((f_So_asideAtMost 72 v1 v2 q6.2).bind fun q8 => (if q8.1 = 0 then some (.inl ((v5 + (1 : Int32)), q8.2)) else some (.inr (.inr (v5, q8.2))))))) else some (.inl ((v5 + (1 : Int32)), g))) else some (.inl ((v5 + (1 : Int32)), g))))
theorem tb_Da_leastSeal_17 {Lx : Nat} (v1 : Int32) (v2 : Int32) (v3 : Int32) (v4 : Int32)  (v5 : Int32) (g : M2) {b : (Int32 × M2) ⊕ (M2 ⊕ (Int32 × M2))} {o : Option Value × M2} (h : b_Da_leastSeal_17 v1 v2 v3 v4 v5 g = some b) (hb : Sum.elim (fun s => Ev Lx 262 cd_262 17 [some (.ref 0), some (.int v1), some (.int v2), some (.int v3), some (.int v4), some (.int s.1)] [] s.2 o) (Sum.elim (fun e => Ev Lx 262 cd_262 42 [some (.ref 0), some (.int v1), some (.int v2), some (.int v3), some (.int v4)] [] e o) (fun r => o = (some (.int r.1), r.2))) b) : Ev Lx 262 cd_262 17 [some (.ref 0), some (.int v1), some (.int v2), some (.int v3), some (.int v4), some (.int v5)] [] g o := by
  unfold b_Da_leastSeal_17 at h
  refine ev_rn (n := 2) (i2 := 19) (L2 := [some (.ref 0), some (.int v1), some (.int v2), some (.int v3), some (.int v4), some (.int v5)]) (st2 := [.int (4095 : Int32), .int v5]) (g2 := g) cdE_262 rfl ?_
  by_cases hc3 : (4095 : Int32) < v5
  · rw [if_pos hc3] at h
    refine ev_ift cdE_262 rfl (cn_t hc3) ?_
    cases h
    exact ev_wk (L := [some (.ref 0), some (.int v1), some (.int v2), some (.int v3), some (.int v4)]) hb ⟨rfl, ⟨rfl, ⟨rfl, ⟨rfl, ⟨rfl, trivial⟩⟩⟩⟩⟩
  · rw [if_neg hc3] at h
    refine ev_iff rfl (cn_f hc3) ?_
    refine ev_rn (n := 1) (i2 := 21) (L2 := [some (.ref 0), some (.int v1), some (.int v2), some (.int v3), some (.int v4), some (.int v5)]) (st2 := [.int v5]) (g2 := g) cdE_262 rfl ?_
    refine ev_call rfl cdE_57 rfl rfl rfl (e_In_bitCount v5  g rfl) ?_
    refine ev_rn (n := 1) (i2 := 23) (L2 := [some (.ref 0), some (.int v1), some (.int v2), some (.int v3), some (.int v4), some (.int v5)]) (st2 := [.int v4, .int (f_In_bitCount v5 g)]) (g2 := g) cdE_262 rfl ?_
    by_cases hc4 : (f_In_bitCount v5 g) = v4
    · rw [if_pos hc4] at h
      refine ev_iff rfl (cn_f (fun q => q hc4)) ?_
      refine ev_rn (n := 3) (i2 := 27) (L2 := [some (.ref 0), some (.int v1), some (.int v2), some (.int v3), some (.int v4), some (.int v5)]) (st2 := [.int (v5 &&& v3)]) (g2 := g) cdE_262 rfl ?_
      by_cases hc5 : (v5 &&& v3) = 0
      · rw [if_pos hc5] at h
        refine ev_zff rfl (cn_f (fun q => q hc5)) ?_
        refine ev_rn (n := 2) (i2 := 30) (L2 := [some (.ref 0), some (.int v1), some (.int v2), some (.int v3), some (.int v4), some (.int v5)]) (st2 := [.int v5, .ref 0]) (g2 := g) cdE_262 rfl ?_
        obtain ⟨q6, hq6, h⟩ := Option.bind_eq_some_iff.mp h
        refine ev_call rfl cdE_259 rfl rfl rfl (e_Da_holdsDeafTo v5  g hq6) ?_
        by_cases hc7 : q6.1 = 0
        · rw [if_pos hc7] at h
          refine ev_zft cdE_262 rfl (cn_t hc7) ?_
          refine ev_rn (n := 2) (i2 := 17) (L2 := [some (.ref 0), some (.int v1), some (.int v2), some (.int v3), some (.int v4), some (.int (v5 + (1 : Int32)))]) (st2 := []) (g2 := q6.2) cdE_262 rfl ?_
          cases h
          exact ev_wk (L := [some (.ref 0), some (.int v1), some (.int v2), some (.int v3), some (.int v4), some (.int (v5 + (1 : Int32)))]) hb ⟨rfl, ⟨rfl, ⟨rfl, ⟨rfl, ⟨rfl, ⟨rfl, trivial⟩⟩⟩⟩⟩⟩
        · rw [if_neg hc7] at h
          refine ev_zff rfl (cn_f hc7) ?_
          refine ev_rn (n := 4) (i2 := 36) (L2 := [some (.ref 0), some (.int v1), some (.int v2), some (.int v3), some (.int v4), some (.int v5)]) (st2 := [.int v2, .int v1, .ref 72]) (g2 := q6.2) cdE_262 rfl ?_
          obtain ⟨q8, hq8, h⟩ := Option.bind_eq_some_iff.mp h
          refine ev_call rfl cdE_185 rfl rfl rfl (e_So_asideAtMost 72 v1 v2 (by decide) q6.2 hq8) ?_
          by_cases hc9 : q8.1 = 0
          · rw [if_pos hc9] at h
            refine ev_zft cdE_262 rfl (cn_t hc9) ?_
            refine ev_rn (n := 2) (i2 := 17) (L2 := [some (.ref 0), some (.int v1), some (.int v2), some (.int v3), some (.int v4), some (.int (v5 + (1 : Int32)))]) (st2 := []) (g2 := q8.2) cdE_262 rfl ?_
            cases h
            exact ev_wk (L := [some (.ref 0), some (.int v1), some (.int v2), some (.int v3), some (.int v4), some (.int (v5 + (1 : Int32)))]) hb ⟨rfl, ⟨rfl, ⟨rfl, ⟨rfl, ⟨rfl, ⟨rfl, trivial⟩⟩⟩⟩⟩⟩
          · rw [if_neg hc9] at h
            refine ev_zff rfl (cn_f hc9) ?_
            refine ev_rn (n := 1) (i2 := 39) (L2 := [some (.ref 0), some (.int v1), some (.int v2), some (.int v3), some (.int v4), some (.int v5)]) (st2 := [.int v5]) (g2 := q8.2) cdE_262 rfl ?_
            cases h
            cases hb
            exact ev_ret rfl rfl
      · rw [if_neg hc5] at h
        refine ev_zft cdE_262 rfl (cn_t hc5) ?_
        refine ev_rn (n := 2) (i2 := 17) (L2 := [some (.ref 0), some (.int v1), some (.int v2), some (.int v3), some (.int v4), some (.int (v5 + (1 : Int32)))]) (st2 := []) (g2 := g) cdE_262 rfl ?_
        cases h
        exact ev_wk (L := [some (.ref 0), some (.int v1), some (.int v2), some (.int v3), some (.int v4), some (.int (v5 + (1 : Int32)))]) hb ⟨rfl, ⟨rfl, ⟨rfl, ⟨rfl, ⟨rfl, ⟨rfl, trivial⟩⟩⟩⟩⟩⟩
    · rw [if_neg hc4] at h
      refine ev_ift cdE_262 rfl (cn_t hc4) ?_
      refine ev_rn (n := 2) (i2 := 17) (L2 := [some (.ref 0), some (.int v1), some (.int v2), some (.int v3), some (.int v4), some (.int (v5 + (1 : Int32)))]) (st2 := []) (g2 := g) cdE_262 rfl ?_
      cases h
      exact ev_wk (L := [some (.ref 0), some (.int v1), some (.int v2), some (.int v3), some (.int v4), some (.int (v5 + (1 : Int32)))]) hb ⟨rfl, ⟨rfl, ⟨rfl, ⟨rfl, ⟨rfl, ⟨rfl, trivial⟩⟩⟩⟩⟩⟩
def b_Da_leastSeal_7 (v1 : Int32) (v2 : Int32) (v3 : Int32) (v4 : Int32) (g : M2) : Option ((Int32 × M2) ⊕ (M2 ⊕ (Int32 × M2))) := (if ((4 : Int32) - (g.1 7 5)) < v4 then some (.inr (.inl g)) else ((lp (fun s => b_Da_leastSeal_17 v1 v2 v3 v4 s.1 s.2) 5000 ((0 : Int32), g)).bind fun ue10 => Sum.elim (fun e10 => some (.inl ((v4 + (1 : Int32)), e10))) (fun re10 => some (.inr (.inr re10))) ue10))
theorem tb_Da_leastSeal_7 {Lx : Nat} (v1 : Int32) (v2 : Int32) (v3 : Int32)  (v4 : Int32) (g : M2) {b : (Int32 × M2) ⊕ (M2 ⊕ (Int32 × M2))} {o : Option Value × M2} (h : b_Da_leastSeal_7 v1 v2 v3 v4 g = some b) (hb : Sum.elim (fun s => Ev Lx 262 cd_262 7 [some (.ref 0), some (.int v1), some (.int v2), some (.int v3), some (.int s.1)] [] s.2 o) (Sum.elim (fun e => Ev Lx 262 cd_262 44 [] [] e o) (fun r => o = (some (.int r.1), r.2))) b) : Ev Lx 262 cd_262 7 [some (.ref 0), some (.int v1), some (.int v2), some (.int v3), some (.int v4)] [] g o := by
  unfold b_Da_leastSeal_7 at h
  refine ev_rn (n := 7) (i2 := 14) (L2 := [some (.ref 0), some (.int v1), some (.int v2), some (.int v3), some (.int v4)]) (st2 := [.int ((4 : Int32) - (g.1 7 5)), .int v4]) (g2 := g) cdE_262 rfl ?_
  by_cases hc2 : ((4 : Int32) - (g.1 7 5)) < v4
  · rw [if_pos hc2] at h
    refine ev_ift cdE_262 rfl (cn_t hc2) ?_
    cases h
    exact ev_wk (L := []) hb trivial
  · rw [if_neg hc2] at h
    refine ev_iff rfl (cn_f hc2) ?_
    refine ev_rn (n := 2) (i2 := 17) (L2 := [some (.ref 0), some (.int v1), some (.int v2), some (.int v3), some (.int v4), some (.int (0 : Int32))]) (st2 := []) (g2 := g) cdE_262 rfl ?_
    obtain ⟨ue10, he10, h⟩ := Option.bind_eq_some_iff.mp h
    cases ue10 with
    | inl e10 =>
      replace h := h
      have hX11 : Ev Lx 262 cd_262 42 [some (.ref 0), some (.int v1), some (.int v2), some (.int v3), some (.int v4)] [] e10 o := by
        simp only [Sum.elim_inl] at h
        refine ev_rn (n := 2) (i2 := 7) (L2 := [some (.ref 0), some (.int v1), some (.int v2), some (.int v3), some (.int (v4 + (1 : Int32)))]) (st2 := []) (g2 := e10) cdE_262 rfl ?_
        cases h
        exact ev_wk (L := [some (.ref 0), some (.int v1), some (.int v2), some (.int v3), some (.int (v4 + (1 : Int32)))]) hb ⟨rfl, ⟨rfl, ⟨rfl, ⟨rfl, ⟨rfl, trivial⟩⟩⟩⟩⟩
      exact ev_wk (L := [some (.ref 0), some (.int v1), some (.int v2), some (.int v3), some (.int v4), some (.int (0 : Int32))]) (lp_ind (P := (fun (s : (Int32 × M2)) => Ev Lx 262 cd_262 17 [some (.ref 0), some (.int v1), some (.int v2), some (.int v3), some (.int v4), some (.int s.1)] [] s.2 o)) (fun s s2 hs hP => tb_Da_leastSeal_17 v1 v2 v3 v4  s.1 s.2 (b := .inl s2) hs hP) (fun s hs => tb_Da_leastSeal_17 v1 v2 v3 v4  s.1 s.2 (b := .inr (.inl e10)) hs hX11) _ _ he10) ⟨rfl, ⟨rfl, ⟨rfl, ⟨rfl, ⟨rfl, ⟨rfl, trivial⟩⟩⟩⟩⟩⟩
    | inr re10 =>
      simp only [Sum.elim_inr] at h
      cases h
      cases hb
      exact ev_wk (L := [some (.ref 0), some (.int v1), some (.int v2), some (.int v3), some (.int v4), some (.int (0 : Int32))]) (lp_ind (P := (fun (s : (Int32 × M2)) => Ev Lx 262 cd_262 17 [some (.ref 0), some (.int v1), some (.int v2), some (.int v3), some (.int v4), some (.int s.1)] [] s.2 (some (.int re10.1), re10.2))) (fun s s2 hs hP => tb_Da_leastSeal_17 v1 v2 v3 v4  s.1 s.2 (b := .inl s2) hs hP) (fun s hs => tb_Da_leastSeal_17 v1 v2 v3 v4  s.1 s.2 (b := .inr (.inr re10)) hs rfl) _ _ he10) ⟨rfl, ⟨rfl, ⟨rfl, ⟨rfl, ⟨rfl, ⟨rfl, trivial⟩⟩⟩⟩⟩⟩
def f_Da_leastSeal (p0 : Int32) (p1 : Int32) (g : M2) : Option (Int32 × M2) := ((f_Pl_wishBits 7 g).bind fun q1 => ((lp (fun s => b_Da_leastSeal_7 p0 p1 q1 s.1 s.2) 5000 ((0 : Int32), g)).bind fun ue12 => Sum.elim (fun e12 => some ((-1 : Int32), e12)) (fun re12 => some re12) ue12))
theorem e_Da_leastSeal {Lx : Nat} (p0 : Int32) (p1 : Int32)  (g : M2) {b : (Int32 × M2)} (h : f_Da_leastSeal p0 p1 g = some b) : Ev Lx 262 cd_262 0 [some (.ref 0), some (.int p0), some (.int p1)] [] g (some (.int b.1), b.2) := by
  unfold f_Da_leastSeal at h
  refine ev_rn (n := 3) (i2 := 3) (L2 := [some (.ref 0), some (.int p0), some (.int p1)]) (st2 := [.ref 7]) (g2 := g) cdE_262 rfl ?_
  obtain ⟨q1, hq1, h⟩ := Option.bind_eq_some_iff.mp h
  refine ev_call rfl cdE_32 rfl rfl rfl (e_Pl_wishBits 7 (by decide) g hq1) ?_
  refine ev_rn (n := 3) (i2 := 7) (L2 := [some (.ref 0), some (.int p0), some (.int p1), some (.int q1), some (.int (0 : Int32))]) (st2 := []) (g2 := g) cdE_262 rfl ?_
  obtain ⟨ue12, he12, h⟩ := Option.bind_eq_some_iff.mp h
  cases ue12 with
  | inl e12 =>
    replace h := h
    have hX13 : Ev Lx 262 cd_262 44 [] [] e12 (some (.int b.1), b.2) := by
      simp only [Sum.elim_inl] at h
      refine ev_rn (n := 1) (i2 := 45) (L2 := []) (st2 := [.int (-1 : Int32)]) (g2 := e12) cdE_262 rfl ?_
      cases h
      exact ev_ret rfl rfl
    exact ev_wk (L := [some (.ref 0), some (.int p0), some (.int p1), some (.int q1), some (.int (0 : Int32))]) (lp_ind (P := (fun (s : (Int32 × M2)) => Ev Lx 262 cd_262 7 [some (.ref 0), some (.int p0), some (.int p1), some (.int q1), some (.int s.1)] [] s.2 (some (.int b.1), b.2))) (fun s s2 hs hP => tb_Da_leastSeal_7 p0 p1 q1  s.1 s.2 (b := .inl s2) hs hP) (fun s hs => tb_Da_leastSeal_7 p0 p1 q1  s.1 s.2 (b := .inr (.inl e12)) hs hX13) _ _ he12) ⟨rfl, ⟨rfl, ⟨rfl, ⟨rfl, ⟨rfl, trivial⟩⟩⟩⟩⟩
  | inr re12 =>
    simp only [Sum.elim_inr] at h
    cases h
    exact ev_wk (L := [some (.ref 0), some (.int p0), some (.int p1), some (.int q1), some (.int (0 : Int32))]) (lp_ind (P := (fun (s : (Int32 × M2)) => Ev Lx 262 cd_262 7 [some (.ref 0), some (.int p0), some (.int p1), some (.int q1), some (.int s.1)] [] s.2 (some (.int b.1), b.2))) (fun s s2 hs hP => tb_Da_leastSeal_7 p0 p1 q1  s.1 s.2 (b := .inl s2) hs hP) (fun s hs => tb_Da_leastSeal_7 p0 p1 q1  s.1 s.2 (b := .inr (.inr b)) hs rfl) _ _ he12) ⟨rfl, ⟨rfl, ⟨rfl, ⟨rfl, ⟨rfl, trivial⟩⟩⟩⟩⟩
def f_Da_sealed (p0 : Int32) (p1 : Int32) (p2 : Int32) (g : M2) : Option (Int32 × M2) := ((f_Da_refresh g).bind fun q1 => (if (q1.1 6 13) = 0 then some ((-2 : Int32), q1) else (if (f_Da_isFraction p0 p1 q1) = 0 then some ((-2 : Int32), q1) else (if (f_Da_isAmong p2 (2 : Int32) q1) = 0 then some ((-2 : Int32), q1) else ((f_Da_leastSeal p0 p1 q1).bind fun q5 => (if p2 = (1 : Int32) then some (q5.1, q5.2) else (if q5.1 = (-1 : Int32) then some (q5.1, q5.2) else some ((f_In_bitCount q5.1 q5.2), q5.2))))))))
theorem e_Da_sealed {Lx : Nat} (p0 : Int32) (p1 : Int32) (p2 : Int32)  (g : M2) {b : (Int32 × M2)} (h : f_Da_sealed p0 p1 p2 g = some b) : Ev Lx 263 cd_263 0 [some (.ref 0), some (.int p0), some (.int p1), some (.int p2)] [] g (some (.int b.1), b.2) := by
  unfold f_Da_sealed at h
  refine ev_rn (n := 1) (i2 := 1) (L2 := [some (.ref 0), some (.int p0), some (.int p1), some (.int p2)]) (st2 := [.ref 0]) (g2 := g) cdE_263 rfl ?_
  obtain ⟨q1, hq1, h⟩ := Option.bind_eq_some_iff.mp h
  refine ev_call rfl cdE_100 rfl rfl rfl (e_Da_refresh   g hq1) ?_
  refine ev_rn (n := 3) (i2 := 5) (L2 := [some (.ref 0), some (.int p0), some (.int p1), some (.int p2)]) (st2 := [.int (q1.1 6 13)]) (g2 := q1) cdE_263 rfl ?_
  by_cases hc2 : (q1.1 6 13) = 0
  · rw [if_pos hc2] at h
    refine ev_zft cdE_263 rfl (cn_t hc2) ?_
    refine ev_rn (n := 1) (i2 := 15) (L2 := [some (.ref 0), some (.int p0), some (.int p1), some (.int p2)]) (st2 := [.int (-2 : Int32)]) (g2 := q1) cdE_263 rfl ?_
    cases h
    exact ev_ret rfl rfl
  · rw [if_neg hc2] at h
    refine ev_zff rfl (cn_f hc2) ?_
    refine ev_rn (n := 2) (i2 := 8) (L2 := [some (.ref 0), some (.int p0), some (.int p1), some (.int p2)]) (st2 := [.int p1, .int p0]) (g2 := q1) cdE_263 rfl ?_
    refine ev_call rfl cdE_154 rfl rfl rfl (e_Da_isFraction p0 p1  q1 rfl) ?_
    by_cases hc3 : (f_Da_isFraction p0 p1 q1) = 0
    · rw [if_pos hc3] at h
      refine ev_zft cdE_263 rfl (cn_t hc3) ?_
      refine ev_rn (n := 1) (i2 := 15) (L2 := [some (.ref 0), some (.int p0), some (.int p1), some (.int p2)]) (st2 := [.int (-2 : Int32)]) (g2 := q1) cdE_263 rfl ?_
      cases h
      exact ev_ret rfl rfl
    · rw [if_neg hc3] at h
      refine ev_zff rfl (cn_f hc3) ?_
      refine ev_rn (n := 2) (i2 := 12) (L2 := [some (.ref 0), some (.int p0), some (.int p1), some (.int p2)]) (st2 := [.int (2 : Int32), .int p2]) (g2 := q1) cdE_263 rfl ?_
      refine ev_call rfl cdE_65 rfl rfl rfl (e_Da_isAmong p2 (2 : Int32)  q1 rfl) ?_
      by_cases hc4 : (f_Da_isAmong p2 (2 : Int32) q1) = 0
      · rw [if_pos hc4] at h
        refine ev_zff rfl (cn_f (fun q => q hc4)) ?_
        refine ev_rn (n := 1) (i2 := 15) (L2 := [some (.ref 0), some (.int p0), some (.int p1), some (.int p2)]) (st2 := [.int (-2 : Int32)]) (g2 := q1) cdE_263 rfl ?_
        cases h
        exact ev_ret rfl rfl
      · rw [if_neg hc4] at h
        refine ev_zft cdE_263 rfl (cn_t hc4) ?_
        refine ev_rn (n := 3) (i2 := 19) (L2 := [some (.ref 0), some (.int p0), some (.int p1), some (.int p2)]) (st2 := [.int p1, .int p0, .ref 0]) (g2 := q1) cdE_263 rfl ?_
        obtain ⟨q5, hq5, h⟩ := Option.bind_eq_some_iff.mp h
        refine ev_call rfl cdE_262 rfl rfl rfl (e_Da_leastSeal p0 p1  q1 hq5) ?_
        refine ev_rn (n := 3) (i2 := 23) (L2 := [some (.ref 0), some (.int p0), some (.int p1), some (.int p2), some (.int q5.1)]) (st2 := [.int (1 : Int32), .int p2]) (g2 := q5.2) cdE_263 rfl ?_
        by_cases hc6 : p2 = (1 : Int32)
        · rw [if_pos hc6] at h
          refine ev_ift cdE_263 rfl (cn_t hc6) ?_
          refine ev_rn (n := 2) (i2 := 31) (L2 := [some (.ref 0), some (.int p0), some (.int p1), some (.int p2), some (.int q5.1)]) (st2 := [.int q5.1]) (g2 := q5.2) cdE_263 rfl ?_
          cases h
          exact ev_ret rfl rfl
        · rw [if_neg hc6] at h
          refine ev_iff rfl (cn_f hc6) ?_
          refine ev_rn (n := 2) (i2 := 26) (L2 := [some (.ref 0), some (.int p0), some (.int p1), some (.int p2), some (.int q5.1)]) (st2 := [.int (-1 : Int32), .int q5.1]) (g2 := q5.2) cdE_263 rfl ?_
          by_cases hc7 : q5.1 = (-1 : Int32)
          · rw [if_pos hc7] at h
            refine ev_iff rfl (cn_f (fun q => q hc7)) ?_
            refine ev_rn (n := 2) (i2 := 31) (L2 := [some (.ref 0), some (.int p0), some (.int p1), some (.int p2), some (.int q5.1)]) (st2 := [.int q5.1]) (g2 := q5.2) cdE_263 rfl ?_
            cases h
            exact ev_ret rfl rfl
          · rw [if_neg hc7] at h
            refine ev_ift cdE_263 rfl (cn_t hc7) ?_
            refine ev_rn (n := 1) (i2 := 30) (L2 := [some (.ref 0), some (.int p0), some (.int p1), some (.int p2), some (.int q5.1)]) (st2 := [.int q5.1]) (g2 := q5.2) cdE_263 rfl ?_
            refine ev_call rfl cdE_57 rfl rfl rfl (e_In_bitCount q5.1  q5.2 rfl) ?_
            cases h
            exact ev_ret rfl rfl
def b_Mo_isSealed_9 (v1 : Int32) (v2 : Int32) (v3 : Int32) (v4 : Int32) (g : M2) : Option (Int32 ⊕ (Unit ⊕ (Int32 × M2))) := (if (12 : Int32) ≤ v4 then some (.inr (.inl ())) else (if ((v1 >>> (v4 &&& 31)) &&& (1 : Int32)) = 0 then ((f_Mo_isAside v4 g).bind fun q5 => (if q5 = 0 then some (.inl (v4 + (1 : Int32))) else ((f_Mo_byBound v4 v2 v3 g).bind fun q7 => (if q7 ≤ 0 then some (.inl (v4 + (1 : Int32))) else some (.inr (.inr ((0 : Int32), g))))))) else some (.inl (v4 + (1 : Int32)))))
theorem tb_Mo_isSealed_9 {Lx : Nat} (v1 : Int32) (v2 : Int32) (v3 : Int32)  (v4 : Int32) (g : M2) {b : Int32 ⊕ (Unit ⊕ (Int32 × M2))} {o : Option Value × M2} (h : b_Mo_isSealed_9 v1 v2 v3 v4 g = some b) (hb : Sum.elim (fun s => Ev Lx 264 cd_264 9 [some (.ref 157), some (.int v1), some (.int v2), some (.int v3), some (.int s)] [] g o) (Sum.elim (fun e => Ev Lx 264 cd_264 32 [] [] g o) (fun r => o = (some (.int r.1), r.2))) b) : Ev Lx 264 cd_264 9 [some (.ref 157), some (.int v1), some (.int v2), some (.int v3), some (.int v4)] [] g o := by
  unfold b_Mo_isSealed_9 at h
  refine ev_rn (n := 2) (i2 := 11) (L2 := [some (.ref 157), some (.int v1), some (.int v2), some (.int v3), some (.int v4)]) (st2 := [.int (12 : Int32), .int v4]) (g2 := g) cdE_264 rfl ?_
  by_cases hc3 : (12 : Int32) ≤ v4
  · rw [if_pos hc3] at h
    refine ev_ift cdE_264 rfl (cn_t hc3) ?_
    cases h
    exact ev_wk (L := []) hb trivial
  · rw [if_neg hc3] at h
    refine ev_iff rfl (cn_f hc3) ?_
    refine ev_rn (n := 5) (i2 := 17) (L2 := [some (.ref 157), some (.int v1), some (.int v2), some (.int v3), some (.int v4)]) (st2 := [.int ((v1 >>> (v4 &&& 31)) &&& (1 : Int32))]) (g2 := g) cdE_264 rfl ?_
    by_cases hc4 : ((v1 >>> (v4 &&& 31)) &&& (1 : Int32)) = 0
    · rw [if_pos hc4] at h
      refine ev_zff rfl (cn_f (fun q => q hc4)) ?_
      refine ev_rn (n := 2) (i2 := 20) (L2 := [some (.ref 157), some (.int v1), some (.int v2), some (.int v3), some (.int v4)]) (st2 := [.int v4, .ref 157]) (g2 := g) cdE_264 rfl ?_
      obtain ⟨q5, hq5, h⟩ := Option.bind_eq_some_iff.mp h
      refine ev_call rfl cdE_183 rfl rfl rfl (e_Mo_isAside v4  g hq5) ?_
      by_cases hc6 : q5 = 0
      · rw [if_pos hc6] at h
        refine ev_zft cdE_264 rfl (cn_t hc6) ?_
        refine ev_rn (n := 2) (i2 := 9) (L2 := [some (.ref 157), some (.int v1), some (.int v2), some (.int v3), some (.int (v4 + (1 : Int32)))]) (st2 := []) (g2 := g) cdE_264 rfl ?_
        cases h
        exact ev_wk (L := [some (.ref 157), some (.int v1), some (.int v2), some (.int v3), some (.int (v4 + (1 : Int32)))]) hb ⟨rfl, ⟨rfl, ⟨rfl, ⟨rfl, ⟨rfl, trivial⟩⟩⟩⟩⟩
      · rw [if_neg hc6] at h
        refine ev_zff rfl (cn_f hc6) ?_
        refine ev_rn (n := 4) (i2 := 26) (L2 := [some (.ref 157), some (.int v1), some (.int v2), some (.int v3), some (.int v4)]) (st2 := [.int v3, .int v2, .int v4, .ref 157]) (g2 := g) cdE_264 rfl ?_
        obtain ⟨q7, hq7, h⟩ := Option.bind_eq_some_iff.mp h
        refine ev_call rfl cdE_160 rfl rfl rfl (e_Mo_byBound v4 v2 v3  g hq7) ?_
        by_cases hc8 : q7 ≤ 0
        · rw [if_pos hc8] at h
          refine ev_zft cdE_264 rfl (cn_t hc8) ?_
          refine ev_rn (n := 2) (i2 := 9) (L2 := [some (.ref 157), some (.int v1), some (.int v2), some (.int v3), some (.int (v4 + (1 : Int32)))]) (st2 := []) (g2 := g) cdE_264 rfl ?_
          cases h
          exact ev_wk (L := [some (.ref 157), some (.int v1), some (.int v2), some (.int v3), some (.int (v4 + (1 : Int32)))]) hb ⟨rfl, ⟨rfl, ⟨rfl, ⟨rfl, ⟨rfl, trivial⟩⟩⟩⟩⟩
        · rw [if_neg hc8] at h
          refine ev_zff rfl (cn_f hc8) ?_
          refine ev_rn (n := 1) (i2 := 29) (L2 := [some (.ref 157), some (.int v1), some (.int v2), some (.int v3), some (.int v4)]) (st2 := [.int (0 : Int32)]) (g2 := g) cdE_264 rfl ?_
          cases h
          cases hb
          exact ev_ret rfl rt_0
    · rw [if_neg hc4] at h
      refine ev_zft cdE_264 rfl (cn_t hc4) ?_
      refine ev_rn (n := 2) (i2 := 9) (L2 := [some (.ref 157), some (.int v1), some (.int v2), some (.int v3), some (.int (v4 + (1 : Int32)))]) (st2 := []) (g2 := g) cdE_264 rfl ?_
      cases h
      exact ev_wk (L := [some (.ref 157), some (.int v1), some (.int v2), some (.int v3), some (.int (v4 + (1 : Int32)))]) hb ⟨rfl, ⟨rfl, ⟨rfl, ⟨rfl, ⟨rfl, trivial⟩⟩⟩⟩⟩
def f_Mo_isSealed (p0 : Int32) (p1 : Int32) (p2 : Int32) (g : M2) : Option (Int32 × M2) := (if (g.1 157 15) = 0 then some ((0 : Int32), g) else ((f_Mo_laysPowers g).bind fun q2 => ((lp (fun s => b_Mo_isSealed_9 p0 p1 p2 s q2) 5000 (0 : Int32)).bind fun ue9 => Sum.elim (fun e9 => some ((1 : Int32), q2)) (fun re9 => some re9) ue9)))
theorem e_Mo_isSealed {Lx : Nat} (p0 : Int32) (p1 : Int32) (p2 : Int32)  (g : M2) {b : (Int32 × M2)} (h : f_Mo_isSealed p0 p1 p2 g = some b) : Ev Lx 264 cd_264 0 [some (.ref 157), some (.int p0), some (.int p1), some (.int p2)] [] g (some (.int b.1), b.2) := by
  unfold f_Mo_isSealed at h
  refine ev_rn (n := 2) (i2 := 2) (L2 := [some (.ref 157), some (.int p0), some (.int p1), some (.int p2)]) (st2 := [.int (g.1 157 15)]) (g2 := g) cdE_264 rfl ?_
  by_cases hc1 : (g.1 157 15) = 0
  · rw [if_pos hc1] at h
    refine ev_zff rfl (cn_f (fun q => q hc1)) ?_
    refine ev_rn (n := 1) (i2 := 4) (L2 := [some (.ref 157), some (.int p0), some (.int p1), some (.int p2)]) (st2 := [.int (0 : Int32)]) (g2 := g) cdE_264 rfl ?_
    cases h
    exact ev_ret rfl rt_0
  · rw [if_neg hc1] at h
    refine ev_zft cdE_264 rfl (cn_t hc1) ?_
    refine ev_rn (n := 1) (i2 := 6) (L2 := [some (.ref 157), some (.int p0), some (.int p1), some (.int p2)]) (st2 := [.ref 157]) (g2 := g) cdE_264 rfl ?_
    obtain ⟨q2, hq2, h⟩ := Option.bind_eq_some_iff.mp h
    refine ev_call rfl cdE_147 rfl rfl rfl (e_Mo_laysPowers   g hq2) ?_
    refine ev_rn (n := 2) (i2 := 9) (L2 := [some (.ref 157), some (.int p0), some (.int p1), some (.int p2), some (.int (0 : Int32))]) (st2 := []) (g2 := q2) cdE_264 rfl ?_
    obtain ⟨ue9, he9, h⟩ := Option.bind_eq_some_iff.mp h
    cases ue9 with
    | inl e9 =>
      replace h := h
      have hX10 : Ev Lx 264 cd_264 32 [] [] q2 (some (.int b.1), b.2) := by
        simp only [Sum.elim_inl] at h
        refine ev_rn (n := 1) (i2 := 33) (L2 := []) (st2 := [.int (1 : Int32)]) (g2 := q2) cdE_264 rfl ?_
        cases h
        exact ev_ret rfl rt_1
      exact ev_wk (L := [some (.ref 157), some (.int p0), some (.int p1), some (.int p2), some (.int (0 : Int32))]) (lp_ind (P := (fun (s : Int32) => Ev Lx 264 cd_264 9 [some (.ref 157), some (.int p0), some (.int p1), some (.int p2), some (.int s)] [] q2 (some (.int b.1), b.2))) (fun s s2 hs hP => tb_Mo_isSealed_9 p0 p1 p2  s q2 (b := .inl s2) hs hP) (fun s hs => tb_Mo_isSealed_9 p0 p1 p2  s q2 (b := .inr (.inl e9)) hs hX10) _ _ he9) ⟨rfl, ⟨rfl, ⟨rfl, ⟨rfl, ⟨rfl, trivial⟩⟩⟩⟩⟩
    | inr re9 =>
      simp only [Sum.elim_inr] at h
      cases h
      exact ev_wk (L := [some (.ref 157), some (.int p0), some (.int p1), some (.int p2), some (.int (0 : Int32))]) (lp_ind (P := (fun (s : Int32) => Ev Lx 264 cd_264 9 [some (.ref 157), some (.int p0), some (.int p1), some (.int p2), some (.int s)] [] q2 (some (.int b.1), b.2))) (fun s s2 hs hP => tb_Mo_isSealed_9 p0 p1 p2  s q2 (b := .inl s2) hs hP) (fun s hs => tb_Mo_isSealed_9 p0 p1 p2  s q2 (b := .inr (.inr b)) hs rfl) _ _ he9) ⟨rfl, ⟨rfl, ⟨rfl, ⟨rfl, ⟨rfl, trivial⟩⟩⟩⟩⟩
def b_Mo_sealed_54 (v1 : Int32) (v2 : Int32) (v3 : Int32) (v4 : Int32) (v5 : Int32) (v7 : Int32) (v8 : Int32) (g : M2) : Option ((Int32 × Int32) ⊕ Int32) := (if (g.1 160 13) ≤ v8 then some (.inr v7) else (if v7 = 0 then some (.inl ((0 : Int32), (v8 + (1 : Int32)))) else (if inb ((14 : Int32) + v8) 19 then (if ((v5 >>> ((g.1 160 ((14 : Int32) + v8).toNatClampNeg) &&& 31)) &&& (1 : Int32)) = 0 then some (.inl ((1 : Int32), (v8 + (1 : Int32)))) else some (.inl ((0 : Int32), (v8 + (1 : Int32))))) else none)))
theorem tb_Mo_sealed_54 {Lx : Nat} (v1 : Int32) (v2 : Int32) (v3 : Int32) (v4 : Int32) (v5 : Int32)  (v7 : Int32) (v8 : Int32) (g : M2) {b : (Int32 × Int32) ⊕ Int32} {o : Option Value × M2} (h : b_Mo_sealed_54 v1 v2 v3 v4 v5 v7 v8 g = some b) (hb : Sum.elim (fun s => Ev Lx 265 cd_265 54 [some (.ref 157), some (.int v1), some (.int v2), some (.int v3), some (.int v4), some (.int v5), none, some (.int s.1), some (.int s.2)] [] g o) (fun e => Ev Lx 265 cd_265 79 [some (.ref 157), some (.int v1), some (.int v2), some (.int v3), some (.int v4), some (.int v5), none, some (.int e)] [] g o) b) : Ev Lx 265 cd_265 54 [some (.ref 157), some (.int v1), some (.int v2), some (.int v3), some (.int v4), some (.int v5), none, some (.int v7), some (.int v8)] [] g o := by
  unfold b_Mo_sealed_54 at h
  refine ev_rn (n := 4) (i2 := 58) (L2 := [some (.ref 157), some (.int v1), some (.int v2), some (.int v3), some (.int v4), some (.int v5), none, some (.int v7), some (.int v8)]) (st2 := [.int (13 : Int32), .ref 160, .int v8]) (g2 := g) cdE_265 rfl ?_
  refine ev_iaload (v := .int (g.1 160 13)) rfl (kd_of (show S0[160]? = some (100, 19, List.replicate 19 none) from rfl)) (by decide) ⟨by decide, by decide⟩ rfl ?_
  by_cases hc10 : (g.1 160 13) ≤ v8
  · rw [if_pos hc10] at h
    refine ev_ift cdE_265 rfl (cn_t hc10) ?_
    cases h
    exact ev_wk (L := [some (.ref 157), some (.int v1), some (.int v2), some (.int v3), some (.int v4), some (.int v5), none, some (.int v7)]) hb ⟨rfl, ⟨rfl, ⟨rfl, ⟨rfl, ⟨rfl, ⟨rfl, ⟨rfl, trivial⟩⟩⟩⟩⟩⟩⟩
  · rw [if_neg hc10] at h
    refine ev_iff rfl (cn_f hc10) ?_
    refine ev_rn (n := 1) (i2 := 61) (L2 := [some (.ref 157), some (.int v1), some (.int v2), some (.int v3), some (.int v4), some (.int v5), none, some (.int v7), some (.int v8)]) (st2 := [.int v7]) (g2 := g) cdE_265 rfl ?_
    by_cases hc11 : v7 = 0
    · rw [if_pos hc11] at h
      refine ev_zft cdE_265 rfl (cn_t hc11) ?_
      refine ev_rn (n := 3) (i2 := 78) (L2 := [some (.ref 157), some (.int v1), some (.int v2), some (.int v3), some (.int v4), some (.int v5), none, some (.int (0 : Int32)), some (.int (v8 + (1 : Int32)))]) (st2 := []) (g2 := g) cdE_265 rfl ?_
      refine ev_rn (n := 1) (i2 := 54) (L2 := [some (.ref 157), some (.int v1), some (.int v2), some (.int v3), some (.int v4), some (.int v5), none, some (.int (0 : Int32)), some (.int (v8 + (1 : Int32)))]) (st2 := []) (g2 := g) cdE_265 rfl ?_
      cases h
      exact ev_wk (L := [some (.ref 157), some (.int v1), some (.int v2), some (.int v3), some (.int v4), some (.int v5), none, some (.int (0 : Int32)), some (.int (v8 + (1 : Int32)))]) hb ⟨rfl, ⟨rfl, ⟨rfl, ⟨rfl, ⟨rfl, ⟨rfl, ⟨rfl, ⟨rfl, trivial⟩⟩⟩⟩⟩⟩⟩⟩
    · rw [if_neg hc11] at h
      refine ev_zff rfl (cn_f hc11) ?_
      refine ev_rn (n := 6) (i2 := 68) (L2 := [some (.ref 157), some (.int v1), some (.int v2), some (.int v3), some (.int v4), some (.int v5), none, some (.int v7), some (.int v8)]) (st2 := [.int ((14 : Int32) + v8), .ref 160, .int v5]) (g2 := g) cdE_265 rfl ?_
      by_cases hi12 : inb ((14 : Int32) + v8) 19
      · rw [if_pos hi12] at h
        refine ev_iaload (v := .int (g.1 160 ((14 : Int32) + v8).toNatClampNeg)) rfl (kd_of (show S0[160]? = some (100, 19, List.replicate 19 none) from rfl)) (by decide) hi12 rfl ?_
        refine ev_rn (n := 3) (i2 := 72) (L2 := [some (.ref 157), some (.int v1), some (.int v2), some (.int v3), some (.int v4), some (.int v5), none, some (.int v7), some (.int v8)]) (st2 := [.int ((v5 >>> ((g.1 160 ((14 : Int32) + v8).toNatClampNeg) &&& 31)) &&& (1 : Int32))]) (g2 := g) cdE_265 rfl ?_
        by_cases hc13 : ((v5 >>> ((g.1 160 ((14 : Int32) + v8).toNatClampNeg) &&& 31)) &&& (1 : Int32)) = 0
        · rw [if_pos hc13] at h
          refine ev_zff rfl (cn_f (fun q => q hc13)) ?_
          refine ev_rn (n := 4) (i2 := 78) (L2 := [some (.ref 157), some (.int v1), some (.int v2), some (.int v3), some (.int v4), some (.int v5), none, some (.int (1 : Int32)), some (.int (v8 + (1 : Int32)))]) (st2 := []) (g2 := g) cdE_265 rfl ?_
          refine ev_rn (n := 1) (i2 := 54) (L2 := [some (.ref 157), some (.int v1), some (.int v2), some (.int v3), some (.int v4), some (.int v5), none, some (.int (1 : Int32)), some (.int (v8 + (1 : Int32)))]) (st2 := []) (g2 := g) cdE_265 rfl ?_
          cases h
          exact ev_wk (L := [some (.ref 157), some (.int v1), some (.int v2), some (.int v3), some (.int v4), some (.int v5), none, some (.int (1 : Int32)), some (.int (v8 + (1 : Int32)))]) hb ⟨rfl, ⟨rfl, ⟨rfl, ⟨rfl, ⟨rfl, ⟨rfl, ⟨rfl, ⟨rfl, trivial⟩⟩⟩⟩⟩⟩⟩⟩
        · rw [if_neg hc13] at h
          refine ev_zft cdE_265 rfl (cn_t hc13) ?_
          refine ev_rn (n := 3) (i2 := 78) (L2 := [some (.ref 157), some (.int v1), some (.int v2), some (.int v3), some (.int v4), some (.int v5), none, some (.int (0 : Int32)), some (.int (v8 + (1 : Int32)))]) (st2 := []) (g2 := g) cdE_265 rfl ?_
          refine ev_rn (n := 1) (i2 := 54) (L2 := [some (.ref 157), some (.int v1), some (.int v2), some (.int v3), some (.int v4), some (.int v5), none, some (.int (0 : Int32)), some (.int (v8 + (1 : Int32)))]) (st2 := []) (g2 := g) cdE_265 rfl ?_
          cases h
          exact ev_wk (L := [some (.ref 157), some (.int v1), some (.int v2), some (.int v3), some (.int v4), some (.int v5), none, some (.int (0 : Int32)), some (.int (v8 + (1 : Int32)))]) hb ⟨rfl, ⟨rfl, ⟨rfl, ⟨rfl, ⟨rfl, ⟨rfl, ⟨rfl, ⟨rfl, trivial⟩⟩⟩⟩⟩⟩⟩⟩
      · rw [if_neg hi12] at h
        cases h
def b_Mo_sealed_91 (v1 : Int32) (v2 : Int32) (v3 : Int32) (v4 : Int32) (v5 : Int32) (v8 : Int32) (g : M2) : Option ((Int32 × M2) ⊕ M2) := (if (12 : Int32) ≤ v8 then some (.inr g) else (if ((v5 >>> (v8 &&& 31)) &&& (1 : Int32)) = 0 then some (.inl ((v8 + (1 : Int32)), g)) else (if inb (g.1 157 10) 5 then (bd (uI g 163 (g.1 157 10).toNatClampNeg v8) fun g21 => (bd (uI g21 157 10 ((g21.1 157 10) + (1 : Int32))) fun g22 => some (.inl ((v8 + (1 : Int32)), g22)))) else none)))
theorem tb_Mo_sealed_91 {Lx : Nat} (v1 : Int32) (v2 : Int32) (v3 : Int32) (v4 : Int32) (v5 : Int32)  (v8 : Int32) (g : M2) {b : (Int32 × M2) ⊕ M2} {o : Option Value × M2} (h : b_Mo_sealed_91 v1 v2 v3 v4 v5 v8 g = some b) (hb : Sum.elim (fun s => Ev Lx 265 cd_265 91 [some (.ref 157), some (.int v1), some (.int v2), some (.int v3), some (.int v4), some (.int v5), none, none, some (.int s.1)] [] s.2 o) (fun e => Ev Lx 265 cd_265 115 [some (.ref 157), some (.int v1), some (.int v2), some (.int v3), some (.int v4), some (.int v5)] [] e o) b) : Ev Lx 265 cd_265 91 [some (.ref 157), some (.int v1), some (.int v2), some (.int v3), some (.int v4), some (.int v5), none, none, some (.int v8)] [] g o := by
  unfold b_Mo_sealed_91 at h
  refine ev_rn (n := 2) (i2 := 93) (L2 := [some (.ref 157), some (.int v1), some (.int v2), some (.int v3), some (.int v4), some (.int v5), none, none, some (.int v8)]) (st2 := [.int (12 : Int32), .int v8]) (g2 := g) cdE_265 rfl ?_
  by_cases hc19 : (12 : Int32) ≤ v8
  · rw [if_pos hc19] at h
    refine ev_ift cdE_265 rfl (cn_t hc19) ?_
    cases h
    exact ev_wk (L := [some (.ref 157), some (.int v1), some (.int v2), some (.int v3), some (.int v4), some (.int v5)]) hb ⟨rfl, ⟨rfl, ⟨rfl, ⟨rfl, ⟨rfl, ⟨rfl, trivial⟩⟩⟩⟩⟩⟩
  · rw [if_neg hc19] at h
    refine ev_iff rfl (cn_f hc19) ?_
    refine ev_rn (n := 5) (i2 := 99) (L2 := [some (.ref 157), some (.int v1), some (.int v2), some (.int v3), some (.int v4), some (.int v5), none, none, some (.int v8)]) (st2 := [.int ((v5 >>> (v8 &&& 31)) &&& (1 : Int32))]) (g2 := g) cdE_265 rfl ?_
    by_cases hc20 : ((v5 >>> (v8 &&& 31)) &&& (1 : Int32)) = 0
    · rw [if_pos hc20] at h
      refine ev_zff rfl (cn_f (fun q => q hc20)) ?_
      refine ev_rn (n := 3) (i2 := 91) (L2 := [some (.ref 157), some (.int v1), some (.int v2), some (.int v3), some (.int v4), some (.int v5), none, none, some (.int (v8 + (1 : Int32)))]) (st2 := []) (g2 := g) cdE_265 rfl ?_
      cases h
      exact ev_wk (L := [some (.ref 157), some (.int v1), some (.int v2), some (.int v3), some (.int v4), some (.int v5), none, none, some (.int (v8 + (1 : Int32)))]) hb ⟨rfl, ⟨rfl, ⟨rfl, ⟨rfl, ⟨rfl, ⟨rfl, ⟨rfl, trivial⟩⟩⟩⟩⟩⟩⟩
    · rw [if_neg hc20] at h
      refine ev_zft cdE_265 rfl (cn_t hc20) ?_
      refine ev_rn (n := 5) (i2 := 106) (L2 := [some (.ref 157), some (.int v1), some (.int v2), some (.int v3), some (.int v4), some (.int v5), none, none, some (.int v8)]) (st2 := [.int v8, .int (g.1 157 10), .ref 163]) (g2 := g) cdE_265 rfl ?_
      by_cases hi23 : inb (g.1 157 10) 5
      · rw [if_pos hi23] at h
        refine bd_elim h (fun g21 hg21 h => ?_)
        refine ev_iastore (g2 := g21) rfl (show S0[163]? = some (100, 5, List.replicate 5 none) from rfl) (by decide) hi23 (by rw [hg21] <;> rfl) ?_
        refine ev_rn (n := 5) (i2 := 112) (L2 := [some (.ref 157), some (.int v1), some (.int v2), some (.int v3), some (.int v4), some (.int v5), none, none, some (.int v8)]) (st2 := [.int ((g21.1 157 10) + (1 : Int32)), .ref 157]) (g2 := g21) cdE_265 rfl ?_
        refine bd_elim h (fun g22 hg22 h => ?_)
        refine ev_pf (g2 := g22) rfl (rfl : S0[157]? = some _) (by decide) (by rw [hg22] <;> rfl) ?_
        refine ev_rn (n := 2) (i2 := 91) (L2 := [some (.ref 157), some (.int v1), some (.int v2), some (.int v3), some (.int v4), some (.int v5), none, none, some (.int (v8 + (1 : Int32)))]) (st2 := []) (g2 := g22) cdE_265 rfl ?_
        cases h
        exact ev_wk (L := [some (.ref 157), some (.int v1), some (.int v2), some (.int v3), some (.int v4), some (.int v5), none, none, some (.int (v8 + (1 : Int32)))]) hb ⟨rfl, ⟨rfl, ⟨rfl, ⟨rfl, ⟨rfl, ⟨rfl, ⟨rfl, trivial⟩⟩⟩⟩⟩⟩⟩
      · rw [if_neg hi23] at h
        cases h
def j_Mo_sealed_52 (v1 : Int32) (v2 : Int32) (v3 : Int32) (v4 : Int32) (v5 : Int32) (v7 : Int32) (g : M2) : Option ((Int32 × Int32 × M2) ⊕ (Int32 × M2)) := ((lp (fun s => b_Mo_sealed_54 v1 v2 v3 v4 v5 s.1 s.2 g) 5000 (v7, (0 : Int32))).bind fun e14 => (if e14 = 0 then some (.inl (v4, (v5 + (1 : Int32)), g)) else ((f_Mo_laysElements (0 : Int32) g).bind fun q16 => ((f_Mo_lookNow q16).bind fun q17 => ((f_Mo_laysWishes q17 q16).bind fun q18 => ((lp (fun s => b_Mo_sealed_91 v1 v2 v3 v4 v5 s.1 s.2) 5000 ((0 : Int32), q18)).bind fun e24 => ((f_Mo_solves e24).bind fun q25 => ((f_Mo_isSealed v5 v1 v2 q25).bind fun q26 => (if q26.1 = 0 then some (.inl (v4, (v5 + (1 : Int32)), q26.2)) else some (.inl (v5, (v5 + (1 : Int32)), q26.2)))))))))))
theorem tj_Mo_sealed_52 {Lx : Nat}  (v1 : Int32) (v2 : Int32) (v3 : Int32) (v4 : Int32) (v5 : Int32) (v7 : Int32)  (g : M2) {b : (Int32 × Int32 × M2) ⊕ (Int32 × M2)} {o : Option Value × M2} (h : j_Mo_sealed_52 v1 v2 v3 v4 v5 v7 g = some b) (hb : Sum.elim (fun s => Ev Lx 265 cd_265 19 [some (.ref 157), some (.int v1), some (.int v2), some (.int v3), some (.int s.1), some (.int s.2.1)] [] s.2.2 o) (fun e => Ev Lx 265 cd_265 129 [none, none, none, some (.int v3), some (.int e.1)] [] e.2 o) b) : Ev Lx 265 cd_265 52 [some (.ref 157), some (.int v1), some (.int v2), some (.int v3), some (.int v4), some (.int v5), none, some (.int v7)] [] g o := by
  unfold j_Mo_sealed_52 at h
  refine ev_rn (n := 2) (i2 := 54) (L2 := [some (.ref 157), some (.int v1), some (.int v2), some (.int v3), some (.int v4), some (.int v5), none, some (.int v7), some (.int (0 : Int32))]) (st2 := []) (g2 := g) cdE_265 rfl ?_
  obtain ⟨e14, he14, h⟩ := Option.bind_eq_some_iff.mp h
  have hX29 : Ev Lx 265 cd_265 79 [some (.ref 157), some (.int v1), some (.int v2), some (.int v3), some (.int v4), some (.int v5), none, some (.int e14)] [] g o := by
    refine ev_rn (n := 1) (i2 := 80) (L2 := [some (.ref 157), some (.int v1), some (.int v2), some (.int v3), some (.int v4), some (.int v5), none, some (.int e14)]) (st2 := [.int e14]) (g2 := g) cdE_265 rfl ?_
    by_cases hc15 : e14 = 0
    · rw [if_pos hc15] at h
      refine ev_zff rfl (cn_f (fun q => q hc15)) ?_
      refine ev_rn (n := 3) (i2 := 19) (L2 := [some (.ref 157), some (.int v1), some (.int v2), some (.int v3), some (.int v4), some (.int (v5 + (1 : Int32))), none, some (.int e14)]) (st2 := []) (g2 := g) cdE_265 rfl ?_
      cases h
      exact ev_wk (L := [some (.ref 157), some (.int v1), some (.int v2), some (.int v3), some (.int v4), some (.int (v5 + (1 : Int32)))]) hb ⟨rfl, ⟨rfl, ⟨rfl, ⟨rfl, ⟨rfl, ⟨rfl, trivial⟩⟩⟩⟩⟩⟩
    · rw [if_neg hc15] at h
      refine ev_zft cdE_265 rfl (cn_t hc15) ?_
      refine ev_rn (n := 2) (i2 := 84) (L2 := [some (.ref 157), some (.int v1), some (.int v2), some (.int v3), some (.int v4), some (.int v5), none, some (.int e14)]) (st2 := [.int (0 : Int32), .ref 157]) (g2 := g) cdE_265 rfl ?_
      obtain ⟨q16, hq16, h⟩ := Option.bind_eq_some_iff.mp h
      refine ev_call rfl cdE_102 rfl rfl rfl (e_Mo_laysElements (0 : Int32)  g hq16) ?_
      refine ev_rn (n := 2) (i2 := 87) (L2 := [some (.ref 157), some (.int v1), some (.int v2), some (.int v3), some (.int v4), some (.int v5), none, some (.int e14)]) (st2 := [.ref 157, .ref 157]) (g2 := q16) cdE_265 rfl ?_
      obtain ⟨q17, hq17, h⟩ := Option.bind_eq_some_iff.mp h
      refine ev_call rfl cdE_63 rfl rfl rfl (e_Mo_lookNow   q16 hq17) ?_
      obtain ⟨q18, hq18, h⟩ := Option.bind_eq_some_iff.mp h
      refine ev_call rfl cdE_103 rfl rfl rfl (e_Mo_laysWishes q17  q16 hq18) ?_
      refine ev_rn (n := 2) (i2 := 91) (L2 := [some (.ref 157), some (.int v1), some (.int v2), some (.int v3), some (.int v4), some (.int v5), none, some (.int e14), some (.int (0 : Int32))]) (st2 := []) (g2 := q18) cdE_265 rfl ?_
      obtain ⟨e24, he24, h⟩ := Option.bind_eq_some_iff.mp h
      have hX28 : Ev Lx 265 cd_265 115 [some (.ref 157), some (.int v1), some (.int v2), some (.int v3), some (.int v4), some (.int v5)] [] e24 o := by
        refine ev_rn (n := 1) (i2 := 116) (L2 := [some (.ref 157), some (.int v1), some (.int v2), some (.int v3), some (.int v4), some (.int v5)]) (st2 := [.ref 157]) (g2 := e24) cdE_265 rfl ?_
        obtain ⟨q25, hq25, h⟩ := Option.bind_eq_some_iff.mp h
        refine ev_call rfl cdE_116 rfl rfl rfl (e_Mo_solves   e24 hq25) ?_
        refine ev_rn (n := 4) (i2 := 121) (L2 := [some (.ref 157), some (.int v1), some (.int v2), some (.int v3), some (.int v4), some (.int v5)]) (st2 := [.int v2, .int v1, .int v5, .ref 157]) (g2 := q25) cdE_265 rfl ?_
        obtain ⟨q26, hq26, h⟩ := Option.bind_eq_some_iff.mp h
        refine ev_call rfl cdE_264 rfl rfl rfl (e_Mo_isSealed v5 v1 v2  q25 hq26) ?_
        by_cases hc27 : q26.1 = 0
        · rw [if_pos hc27] at h
          refine ev_zft cdE_265 rfl (cn_t hc27) ?_
          refine ev_rn (n := 3) (i2 := 128) (L2 := [some (.ref 157), some (.int v1), some (.int v2), some (.int v3), some (.int v4), some (.int (v5 + (1 : Int32)))]) (st2 := []) (g2 := q26.2) cdE_265 rfl ?_
          refine ev_rn (n := 1) (i2 := 19) (L2 := [some (.ref 157), some (.int v1), some (.int v2), some (.int v3), some (.int v4), some (.int (v5 + (1 : Int32)))]) (st2 := []) (g2 := q26.2) cdE_265 rfl ?_
          cases h
          exact ev_wk (L := [some (.ref 157), some (.int v1), some (.int v2), some (.int v3), some (.int v4), some (.int (v5 + (1 : Int32)))]) hb ⟨rfl, ⟨rfl, ⟨rfl, ⟨rfl, ⟨rfl, ⟨rfl, trivial⟩⟩⟩⟩⟩⟩
        · rw [if_neg hc27] at h
          refine ev_zff rfl (cn_f hc27) ?_
          refine ev_rn (n := 4) (i2 := 128) (L2 := [some (.ref 157), some (.int v1), some (.int v2), some (.int v3), some (.int v5), some (.int (v5 + (1 : Int32)))]) (st2 := []) (g2 := q26.2) cdE_265 rfl ?_
          refine ev_rn (n := 1) (i2 := 19) (L2 := [some (.ref 157), some (.int v1), some (.int v2), some (.int v3), some (.int v5), some (.int (v5 + (1 : Int32)))]) (st2 := []) (g2 := q26.2) cdE_265 rfl ?_
          cases h
          exact ev_wk (L := [some (.ref 157), some (.int v1), some (.int v2), some (.int v3), some (.int v5), some (.int (v5 + (1 : Int32)))]) hb ⟨rfl, ⟨rfl, ⟨rfl, ⟨rfl, ⟨rfl, ⟨rfl, trivial⟩⟩⟩⟩⟩⟩
      exact ev_wk (L := [some (.ref 157), some (.int v1), some (.int v2), some (.int v3), some (.int v4), some (.int v5), none, none, some (.int (0 : Int32))]) (lp_ind (P := (fun (s : (Int32 × M2)) => Ev Lx 265 cd_265 91 [some (.ref 157), some (.int v1), some (.int v2), some (.int v3), some (.int v4), some (.int v5), none, none, some (.int s.1)] [] s.2 o)) (fun s s2 hs hP => tb_Mo_sealed_91 v1 v2 v3 v4 v5  s.1 s.2 (b := .inl s2) hs hP) (fun s hs => tb_Mo_sealed_91 v1 v2 v3 v4 v5  s.1 s.2 (b := .inr e24) hs hX28) _ _ he24) ⟨rfl, ⟨rfl, ⟨rfl, ⟨rfl, ⟨rfl, ⟨rfl, ⟨rfl, trivial⟩⟩⟩⟩⟩⟩⟩
  exact ev_wk (L := [some (.ref 157), some (.int v1), some (.int v2), some (.int v3), some (.int v4), some (.int v5), none, some (.int v7), some (.int (0 : Int32))]) (lp_ind (P := (fun (s : (Int32 × Int32)) => Ev Lx 265 cd_265 54 [some (.ref 157), some (.int v1), some (.int v2), some (.int v3), some (.int v4), some (.int v5), none, some (.int s.1), some (.int s.2)] [] g o)) (fun s s2 hs hP => tb_Mo_sealed_54 v1 v2 v3 v4 v5  s.1 s.2 g (b := .inl s2) hs hP) (fun s hs => tb_Mo_sealed_54 v1 v2 v3 v4 v5  s.1 s.2 g (b := .inr e14) hs hX29) _ _ he14) ⟨rfl, ⟨rfl, ⟨rfl, ⟨rfl, ⟨rfl, ⟨rfl, ⟨rfl, ⟨rfl, trivial⟩⟩⟩⟩⟩⟩⟩⟩
def j_Mo_sealed_41 (v1 : Int32) (v2 : Int32) (v3 : Int32) (v4 : Int32) (v5 : Int32) (g : M2) : Option ((Int32 × Int32 × M2) ⊕ (Int32 × M2)) := ((f_Mo_lookNow g).bind fun q8 => (if ((v5 >>> (q8 &&& 31)) &&& (1 : Int32)) = 0 then (j_Mo_sealed_52 v1 v2 v3 v4 v5 (1 : Int32) g) else (j_Mo_sealed_52 v1 v2 v3 v4 v5 (0 : Int32) g)))
theorem tj_Mo_sealed_41 {Lx : Nat}  (v1 : Int32) (v2 : Int32) (v3 : Int32) (v4 : Int32) (v5 : Int32)  (g : M2) {b : (Int32 × Int32 × M2) ⊕ (Int32 × M2)} {o : Option Value × M2} (h : j_Mo_sealed_41 v1 v2 v3 v4 v5 g = some b) (hb : Sum.elim (fun s => Ev Lx 265 cd_265 19 [some (.ref 157), some (.int v1), some (.int v2), some (.int v3), some (.int s.1), some (.int s.2.1)] [] s.2.2 o) (fun e => Ev Lx 265 cd_265 129 [none, none, none, some (.int v3), some (.int e.1)] [] e.2 o) b) : Ev Lx 265 cd_265 41 [some (.ref 157), some (.int v1), some (.int v2), some (.int v3), some (.int v4), some (.int v5)] [] g o := by
  unfold j_Mo_sealed_41 at h
  refine ev_rn (n := 2) (i2 := 43) (L2 := [some (.ref 157), some (.int v1), some (.int v2), some (.int v3), some (.int v4), some (.int v5)]) (st2 := [.ref 157, .int v5]) (g2 := g) cdE_265 rfl ?_
  obtain ⟨q8, hq8, h⟩ := Option.bind_eq_some_iff.mp h
  refine ev_call rfl cdE_63 rfl rfl rfl (e_Mo_lookNow   g hq8) ?_
  refine ev_rn (n := 3) (i2 := 47) (L2 := [some (.ref 157), some (.int v1), some (.int v2), some (.int v3), some (.int v4), some (.int v5)]) (st2 := [.int ((v5 >>> (q8 &&& 31)) &&& (1 : Int32))]) (g2 := g) cdE_265 rfl ?_
  by_cases hc9 : ((v5 >>> (q8 &&& 31)) &&& (1 : Int32)) = 0
  · rw [if_pos hc9] at h
    refine ev_zff rfl (cn_f (fun q => q hc9)) ?_
    refine ev_rn (n := 3) (i2 := 52) (L2 := [some (.ref 157), some (.int v1), some (.int v2), some (.int v3), some (.int v4), some (.int v5), none, some (.int (1 : Int32))]) (st2 := []) (g2 := g) cdE_265 rfl ?_
    exact ev_wk (L := [some (.ref 157), some (.int v1), some (.int v2), some (.int v3), some (.int v4), some (.int v5), none, some (.int (1 : Int32))]) (tj_Mo_sealed_52  v1 v2 v3 v4 v5 (1 : Int32)  g h hb) ⟨rfl, ⟨rfl, ⟨rfl, ⟨rfl, ⟨rfl, ⟨rfl, ⟨rfl, trivial⟩⟩⟩⟩⟩⟩⟩
  · rw [if_neg hc9] at h
    refine ev_zft cdE_265 rfl (cn_t hc9) ?_
    refine ev_rn (n := 2) (i2 := 52) (L2 := [some (.ref 157), some (.int v1), some (.int v2), some (.int v3), some (.int v4), some (.int v5), none, some (.int (0 : Int32))]) (st2 := []) (g2 := g) cdE_265 rfl ?_
    exact ev_wk (L := [some (.ref 157), some (.int v1), some (.int v2), some (.int v3), some (.int v4), some (.int v5), none, some (.int (0 : Int32))]) (tj_Mo_sealed_52  v1 v2 v3 v4 v5 (0 : Int32)  g h hb) ⟨rfl, ⟨rfl, ⟨rfl, ⟨rfl, ⟨rfl, ⟨rfl, ⟨rfl, trivial⟩⟩⟩⟩⟩⟩⟩
def b_Mo_sealed_19 (v1 : Int32) (v2 : Int32) (v3 : Int32) (v4 : Int32) (v5 : Int32) (g : M2) : Option ((Int32 × Int32 × M2) ⊕ (Int32 × M2)) := (if (4096 : Int32) ≤ v5 then some (.inr (v4, g)) else (if (4 : Int32) < ((f_In_bitCount v5 g) + (g.1 160 13)) then some (.inl (v4, (v5 + (1 : Int32)), g)) else (if v4 = (-1 : Int32) then (j_Mo_sealed_41 v1 v2 v3 v4 v5 g) else (if (f_In_bitCount v5 g) < (f_In_bitCount v4 g) then (j_Mo_sealed_41 v1 v2 v3 v4 v5 g) else some (.inl (v4, (v5 + (1 : Int32)), g))))))
theorem tb_Mo_sealed_19 {Lx : Nat} (v1 : Int32) (v2 : Int32) (v3 : Int32)  (v4 : Int32) (v5 : Int32) (g : M2) {b : (Int32 × Int32 × M2) ⊕ (Int32 × M2)} {o : Option Value × M2} (h : b_Mo_sealed_19 v1 v2 v3 v4 v5 g = some b) (hb : Sum.elim (fun s => Ev Lx 265 cd_265 19 [some (.ref 157), some (.int v1), some (.int v2), some (.int v3), some (.int s.1), some (.int s.2.1)] [] s.2.2 o) (fun e => Ev Lx 265 cd_265 129 [none, none, none, some (.int v3), some (.int e.1)] [] e.2 o) b) : Ev Lx 265 cd_265 19 [some (.ref 157), some (.int v1), some (.int v2), some (.int v3), some (.int v4), some (.int v5)] [] g o := by
  unfold b_Mo_sealed_19 at h
  refine ev_rn (n := 2) (i2 := 21) (L2 := [some (.ref 157), some (.int v1), some (.int v2), some (.int v3), some (.int v4), some (.int v5)]) (st2 := [.int (4096 : Int32), .int v5]) (g2 := g) cdE_265 rfl ?_
  by_cases hc5 : (4096 : Int32) ≤ v5
  · rw [if_pos hc5] at h
    refine ev_ift cdE_265 rfl (cn_t hc5) ?_
    cases h
    exact ev_wk (L := [none, none, none, some (.int v3), some (.int v4)]) hb ⟨rfl, ⟨rfl, trivial⟩⟩
  · rw [if_neg hc5] at h
    refine ev_iff rfl (cn_f hc5) ?_
    refine ev_rn (n := 1) (i2 := 23) (L2 := [some (.ref 157), some (.int v1), some (.int v2), some (.int v3), some (.int v4), some (.int v5)]) (st2 := [.int v5]) (g2 := g) cdE_265 rfl ?_
    refine ev_call rfl cdE_57 rfl rfl rfl (e_In_bitCount v5  g rfl) ?_
    refine ev_rn (n := 5) (i2 := 29) (L2 := [some (.ref 157), some (.int v1), some (.int v2), some (.int v3), some (.int v4), some (.int v5), some (.int (f_In_bitCount v5 g))]) (st2 := [.int (13 : Int32), .ref 160, .int (f_In_bitCount v5 g)]) (g2 := g) cdE_265 rfl ?_
    refine ev_iaload (v := .int (g.1 160 13)) rfl (kd_of (show S0[160]? = some (100, 19, List.replicate 19 none) from rfl)) (by decide) ⟨by decide, by decide⟩ rfl ?_
    refine ev_rn (n := 2) (i2 := 32) (L2 := [some (.ref 157), some (.int v1), some (.int v2), some (.int v3), some (.int v4), some (.int v5), some (.int (f_In_bitCount v5 g))]) (st2 := [.int (4 : Int32), .int ((f_In_bitCount v5 g) + (g.1 160 13))]) (g2 := g) cdE_265 rfl ?_
    by_cases hc6 : (4 : Int32) < ((f_In_bitCount v5 g) + (g.1 160 13))
    · rw [if_pos hc6] at h
      refine ev_ift cdE_265 rfl (cn_t hc6) ?_
      refine ev_rn (n := 2) (i2 := 19) (L2 := [some (.ref 157), some (.int v1), some (.int v2), some (.int v3), some (.int v4), some (.int (v5 + (1 : Int32))), some (.int (f_In_bitCount v5 g))]) (st2 := []) (g2 := g) cdE_265 rfl ?_
      cases h
      exact ev_wk (L := [some (.ref 157), some (.int v1), some (.int v2), some (.int v3), some (.int v4), some (.int (v5 + (1 : Int32)))]) hb ⟨rfl, ⟨rfl, ⟨rfl, ⟨rfl, ⟨rfl, ⟨rfl, trivial⟩⟩⟩⟩⟩⟩
    · rw [if_neg hc6] at h
      refine ev_iff rfl (cn_f hc6) ?_
      refine ev_rn (n := 2) (i2 := 35) (L2 := [some (.ref 157), some (.int v1), some (.int v2), some (.int v3), some (.int v4), some (.int v5), some (.int (f_In_bitCount v5 g))]) (st2 := [.int (-1 : Int32), .int v4]) (g2 := g) cdE_265 rfl ?_
      by_cases hc7 : v4 = (-1 : Int32)
      · rw [if_pos hc7] at h
        refine ev_ift cdE_265 rfl (cn_t hc7) ?_
        exact ev_wk (L := [some (.ref 157), some (.int v1), some (.int v2), some (.int v3), some (.int v4), some (.int v5)]) (tj_Mo_sealed_41  v1 v2 v3 v4 v5  g h hb) ⟨rfl, ⟨rfl, ⟨rfl, ⟨rfl, ⟨rfl, ⟨rfl, trivial⟩⟩⟩⟩⟩⟩
      · rw [if_neg hc7] at h
        refine ev_iff rfl (cn_f hc7) ?_
        refine ev_rn (n := 2) (i2 := 38) (L2 := [some (.ref 157), some (.int v1), some (.int v2), some (.int v3), some (.int v4), some (.int v5), some (.int (f_In_bitCount v5 g))]) (st2 := [.int v4, .int (f_In_bitCount v5 g)]) (g2 := g) cdE_265 rfl ?_
        refine ev_call rfl cdE_57 rfl rfl rfl (e_In_bitCount v4  g rfl) ?_
        by_cases hc30 : (f_In_bitCount v5 g) < (f_In_bitCount v4 g)
        · rw [if_pos hc30] at h
          refine ev_ift cdE_265 rfl (cn_t hc30) ?_
          exact ev_wk (L := [some (.ref 157), some (.int v1), some (.int v2), some (.int v3), some (.int v4), some (.int v5)]) (tj_Mo_sealed_41  v1 v2 v3 v4 v5  g h hb) ⟨rfl, ⟨rfl, ⟨rfl, ⟨rfl, ⟨rfl, ⟨rfl, trivial⟩⟩⟩⟩⟩⟩
        · rw [if_neg hc30] at h
          refine ev_iff rfl (cn_f hc30) ?_
          refine ev_rn (n := 3) (i2 := 19) (L2 := [some (.ref 157), some (.int v1), some (.int v2), some (.int v3), some (.int v4), some (.int (v5 + (1 : Int32))), some (.int (f_In_bitCount v5 g))]) (st2 := []) (g2 := g) cdE_265 rfl ?_
          cases h
          exact ev_wk (L := [some (.ref 157), some (.int v1), some (.int v2), some (.int v3), some (.int v4), some (.int (v5 + (1 : Int32)))]) hb ⟨rfl, ⟨rfl, ⟨rfl, ⟨rfl, ⟨rfl, ⟨rfl, trivial⟩⟩⟩⟩⟩⟩
def f_Mo_sealed (p0 : Int32) (p1 : Int32) (p2 : Int32) (g : M2) : Option (Int32 × M2) := (if (f_Mo_in p2.toInt64 (0 : Int64) (1 : Int64) g) = 0 then some ((-2 : Int32), g) else (if (f_Mo_isBound p0 p1 g) = 0 then some ((-2 : Int32), g) else ((f_Mo_canNow g).bind fun q3 => (if q3.1 = 0 then some ((-2 : Int32), q3.2) else ((lp (fun s => b_Mo_sealed_19 p0 p1 p2 s.1 s.2.1 s.2.2) 5000 ((-1 : Int32), (0 : Int32), q3.2)).bind fun e31 => (if e31.1 = (-1 : Int32) then some ((-1 : Int32), e31.2) else (if p2 = 0 then some ((f_In_bitCount e31.1 e31.2), e31.2) else some (e31.1, e31.2))))))))
theorem e_Mo_sealed {Lx : Nat} (p0 : Int32) (p1 : Int32) (p2 : Int32)  (g : M2) {b : (Int32 × M2)} (h : f_Mo_sealed p0 p1 p2 g = some b) : Ev Lx 265 cd_265 0 [some (.ref 157), some (.int p0), some (.int p1), some (.int p2)] [] g (some (.int b.1), b.2) := by
  unfold f_Mo_sealed at h
  refine ev_rn (n := 4) (i2 := 4) (L2 := [some (.ref 157), some (.int p0), some (.int p1), some (.int p2)]) (st2 := [.long (1 : Int64), .long (0 : Int64), .long p2.toInt64]) (g2 := g) cdE_265 rfl ?_
  refine ev_call rfl cdE_16 rfl rfl rfl (e_Mo_in p2.toInt64 (0 : Int64) (1 : Int64)  g rfl) ?_
  by_cases hc1 : (f_Mo_in p2.toInt64 (0 : Int64) (1 : Int64) g) = 0
  · rw [if_pos hc1] at h
    refine ev_zft cdE_265 rfl (cn_t hc1) ?_
    refine ev_rn (n := 1) (i2 := 14) (L2 := [some (.ref 157), some (.int p0), some (.int p1), some (.int p2)]) (st2 := [.int (-2 : Int32)]) (g2 := g) cdE_265 rfl ?_
    cases h
    exact ev_ret rfl rfl
  · rw [if_neg hc1] at h
    refine ev_zff rfl (cn_f hc1) ?_
    refine ev_rn (n := 2) (i2 := 8) (L2 := [some (.ref 157), some (.int p0), some (.int p1), some (.int p2)]) (st2 := [.int p1, .int p0]) (g2 := g) cdE_265 rfl ?_
    refine ev_call rfl cdE_159 rfl rfl rfl (e_Mo_isBound p0 p1  g rfl) ?_
    by_cases hc2 : (f_Mo_isBound p0 p1 g) = 0
    · rw [if_pos hc2] at h
      refine ev_zft cdE_265 rfl (cn_t hc2) ?_
      refine ev_rn (n := 1) (i2 := 14) (L2 := [some (.ref 157), some (.int p0), some (.int p1), some (.int p2)]) (st2 := [.int (-2 : Int32)]) (g2 := g) cdE_265 rfl ?_
      cases h
      exact ev_ret rfl rfl
    · rw [if_neg hc2] at h
      refine ev_zff rfl (cn_f hc2) ?_
      refine ev_rn (n := 1) (i2 := 11) (L2 := [some (.ref 157), some (.int p0), some (.int p1), some (.int p2)]) (st2 := [.ref 157]) (g2 := g) cdE_265 rfl ?_
      obtain ⟨q3, hq3, h⟩ := Option.bind_eq_some_iff.mp h
      refine ev_call rfl cdE_118 rfl rfl rfl (e_Mo_canNow   g hq3) ?_
      by_cases hc4 : q3.1 = 0
      · rw [if_pos hc4] at h
        refine ev_zff rfl (cn_f (fun q => q hc4)) ?_
        refine ev_rn (n := 1) (i2 := 14) (L2 := [some (.ref 157), some (.int p0), some (.int p1), some (.int p2)]) (st2 := [.int (-2 : Int32)]) (g2 := q3.2) cdE_265 rfl ?_
        cases h
        exact ev_ret rfl rfl
      · rw [if_neg hc4] at h
        refine ev_zft cdE_265 rfl (cn_t hc4) ?_
        refine ev_rn (n := 4) (i2 := 19) (L2 := [some (.ref 157), some (.int p0), some (.int p1), some (.int p2), some (.int (-1 : Int32)), some (.int (0 : Int32))]) (st2 := []) (g2 := q3.2) cdE_265 rfl ?_
        obtain ⟨e31, he31, h⟩ := Option.bind_eq_some_iff.mp h
        have hX34 : Ev Lx 265 cd_265 129 [none, none, none, some (.int p2), some (.int e31.1)] [] e31.2 (some (.int b.1), b.2) := by
          refine ev_rn (n := 2) (i2 := 131) (L2 := [none, none, none, some (.int p2), some (.int e31.1)]) (st2 := [.int (-1 : Int32), .int e31.1]) (g2 := e31.2) cdE_265 rfl ?_
          by_cases hc32 : e31.1 = (-1 : Int32)
          · rw [if_pos hc32] at h
            refine ev_iff rfl (cn_f (fun q => q hc32)) ?_
            refine ev_rn (n := 2) (i2 := 140) (L2 := [none, none, none, some (.int p2), some (.int e31.1)]) (st2 := [.int (-1 : Int32)]) (g2 := e31.2) cdE_265 rfl ?_
            cases h
            exact ev_ret rfl rfl
          · rw [if_neg hc32] at h
            refine ev_ift cdE_265 rfl (cn_t hc32) ?_
            refine ev_rn (n := 1) (i2 := 135) (L2 := [none, none, none, some (.int p2), some (.int e31.1)]) (st2 := [.int p2]) (g2 := e31.2) cdE_265 rfl ?_
            by_cases hc33 : p2 = 0
            · rw [if_pos hc33] at h
              refine ev_zff rfl (cn_f (fun q => q hc33)) ?_
              refine ev_rn (n := 1) (i2 := 137) (L2 := [none, none, none, some (.int p2), some (.int e31.1)]) (st2 := [.int e31.1]) (g2 := e31.2) cdE_265 rfl ?_
              refine ev_call rfl cdE_57 rfl rfl rfl (e_In_bitCount e31.1  e31.2 rfl) ?_
              refine ev_rn (n := 1) (i2 := 140) (L2 := [none, none, none, some (.int p2), some (.int e31.1)]) (st2 := [.int (f_In_bitCount e31.1 e31.2)]) (g2 := e31.2) cdE_265 rfl ?_
              cases h
              exact ev_ret rfl rfl
            · rw [if_neg hc33] at h
              refine ev_zft cdE_265 rfl (cn_t hc33) ?_
              refine ev_rn (n := 1) (i2 := 140) (L2 := [none, none, none, some (.int p2), some (.int e31.1)]) (st2 := [.int e31.1]) (g2 := e31.2) cdE_265 rfl ?_
              cases h
              exact ev_ret rfl rfl
        exact ev_wk (L := [some (.ref 157), some (.int p0), some (.int p1), some (.int p2), some (.int (-1 : Int32)), some (.int (0 : Int32))]) (lp_ind (P := (fun (s : (Int32 × Int32 × M2)) => Ev Lx 265 cd_265 19 [some (.ref 157), some (.int p0), some (.int p1), some (.int p2), some (.int s.1), some (.int s.2.1)] [] s.2.2 (some (.int b.1), b.2))) (fun s s2 hs hP => tb_Mo_sealed_19 p0 p1 p2  s.1 s.2.1 s.2.2 (b := .inl s2) hs hP) (fun s hs => tb_Mo_sealed_19 p0 p1 p2  s.1 s.2.1 s.2.2 (b := .inr e31) hs hX34) _ _ he31) ⟨rfl, ⟨rfl, ⟨rfl, ⟨rfl, ⟨rfl, ⟨rfl, trivial⟩⟩⟩⟩⟩⟩
def b_Da_movedSets_2 (v0 : Int32) (v1 : Int32) (g : M2) : Option (Int32 ⊕ (Unit ⊕ Int32)) := (if (12 : Int32) ≤ v1 then some (.inr (.inl ())) else (if v0 ≤ (((v0 <<< (v1 &&& 31)) ||| (v0 >>> (((12 : Int32) - v1) &&& 31))) &&& (4095 : Int32)) then (if (((v0 <<< (v1 &&& 31)) ||| (v0 >>> (((12 : Int32) - v1) &&& 31))) &&& (4095 : Int32)) = v0 then some (.inr (.inr v1)) else some (.inl (v1 + (1 : Int32)))) else some (.inr (.inr (0 : Int32)))))
theorem tb_Da_movedSets_2 {Lx : Nat} (v0 : Int32)  (v1 : Int32) (g : M2) {b : Int32 ⊕ (Unit ⊕ Int32)} {o : Option Value × M2} (h : b_Da_movedSets_2 v0 v1 g = some b) (hb : Sum.elim (fun s => Ev Lx 266 cd_266 2 [some (.int v0), some (.int s)] [] g o) (Sum.elim (fun e => Ev Lx 266 cd_266 29 [] [] g o) (fun r => o = (some (.int r), g))) b) : Ev Lx 266 cd_266 2 [some (.int v0), some (.int v1)] [] g o := by
  unfold b_Da_movedSets_2 at h
  refine ev_rn (n := 2) (i2 := 4) (L2 := [some (.int v0), some (.int v1)]) (st2 := [.int (12 : Int32), .int v1]) (g2 := g) cdE_266 rfl ?_
  by_cases hc1 : (12 : Int32) ≤ v1
  · rw [if_pos hc1] at h
    refine ev_ift cdE_266 rfl (cn_t hc1) ?_
    cases h
    exact ev_wk (L := []) hb trivial
  · rw [if_neg hc1] at h
    refine ev_iff rfl (cn_f hc1) ?_
    refine ev_rn (n := 14) (i2 := 19) (L2 := [some (.int v0), some (.int v1), some (.int (((v0 <<< (v1 &&& 31)) ||| (v0 >>> (((12 : Int32) - v1) &&& 31))) &&& (4095 : Int32)))]) (st2 := [.int v0, .int (((v0 <<< (v1 &&& 31)) ||| (v0 >>> (((12 : Int32) - v1) &&& 31))) &&& (4095 : Int32))]) (g2 := g) cdE_266 rfl ?_
    by_cases hc2 : v0 ≤ (((v0 <<< (v1 &&& 31)) ||| (v0 >>> (((12 : Int32) - v1) &&& 31))) &&& (4095 : Int32))
    · rw [if_pos hc2] at h
      refine ev_ift cdE_266 rfl (cn_t hc2) ?_
      refine ev_rn (n := 2) (i2 := 24) (L2 := [some (.int v0), some (.int v1), some (.int (((v0 <<< (v1 &&& 31)) ||| (v0 >>> (((12 : Int32) - v1) &&& 31))) &&& (4095 : Int32)))]) (st2 := [.int v0, .int (((v0 <<< (v1 &&& 31)) ||| (v0 >>> (((12 : Int32) - v1) &&& 31))) &&& (4095 : Int32))]) (g2 := g) cdE_266 rfl ?_
      by_cases hc3 : (((v0 <<< (v1 &&& 31)) ||| (v0 >>> (((12 : Int32) - v1) &&& 31))) &&& (4095 : Int32)) = v0
      · rw [if_pos hc3] at h
        refine ev_iff rfl (cn_f (fun q => q hc3)) ?_
        refine ev_rn (n := 1) (i2 := 26) (L2 := [some (.int v0), some (.int v1), some (.int (((v0 <<< (v1 &&& 31)) ||| (v0 >>> (((12 : Int32) - v1) &&& 31))) &&& (4095 : Int32)))]) (st2 := [.int v1]) (g2 := g) cdE_266 rfl ?_
        cases h
        cases hb
        exact ev_ret rfl rfl
      · rw [if_neg hc3] at h
        refine ev_ift cdE_266 rfl (cn_t hc3) ?_
        refine ev_rn (n := 2) (i2 := 2) (L2 := [some (.int v0), some (.int (v1 + (1 : Int32))), some (.int (((v0 <<< (v1 &&& 31)) ||| (v0 >>> (((12 : Int32) - v1) &&& 31))) &&& (4095 : Int32)))]) (st2 := []) (g2 := g) cdE_266 rfl ?_
        cases h
        exact ev_wk (L := [some (.int v0), some (.int (v1 + (1 : Int32)))]) hb ⟨rfl, ⟨rfl, trivial⟩⟩
    · rw [if_neg hc2] at h
      refine ev_iff rfl (cn_f hc2) ?_
      refine ev_rn (n := 1) (i2 := 21) (L2 := [some (.int v0), some (.int v1), some (.int (((v0 <<< (v1 &&& 31)) ||| (v0 >>> (((12 : Int32) - v1) &&& 31))) &&& (4095 : Int32)))]) (st2 := [.int (0 : Int32)]) (g2 := g) cdE_266 rfl ?_
      cases h
      cases hb
      exact ev_ret rfl rfl
def f_Da_movedSets (p0 : Int32) (g : M2) : Option (Int32) := ((lp (fun s => b_Da_movedSets_2 p0 s g) 5000 (1 : Int32)).bind fun ue4 => Sum.elim (fun e4 => some (12 : Int32)) (fun re4 => some re4) ue4)
theorem e_Da_movedSets {Lx : Nat} (p0 : Int32)  (g : M2) {b : Int32} (h : f_Da_movedSets p0 g = some b) : Ev Lx 266 cd_266 0 [some (.int p0)] [] g (some (.int b), g) := by
  unfold f_Da_movedSets at h
  refine ev_rn (n := 2) (i2 := 2) (L2 := [some (.int p0), some (.int (1 : Int32))]) (st2 := []) (g2 := g) cdE_266 rfl ?_
  obtain ⟨ue4, he4, h⟩ := Option.bind_eq_some_iff.mp h
  cases ue4 with
  | inl e4 =>
    replace h := h
    have hX5 : Ev Lx 266 cd_266 29 [] [] g (some (.int b), g) := by
      simp only [Sum.elim_inl] at h
      refine ev_rn (n := 1) (i2 := 30) (L2 := []) (st2 := [.int (12 : Int32)]) (g2 := g) cdE_266 rfl ?_
      cases h
      exact ev_ret rfl rfl
    exact ev_wk (L := [some (.int p0), some (.int (1 : Int32))]) (lp_ind (P := (fun (s : Int32) => Ev Lx 266 cd_266 2 [some (.int p0), some (.int s)] [] g (some (.int b), g))) (fun s s2 hs hP => tb_Da_movedSets_2 p0  s g (b := .inl s2) hs hP) (fun s hs => tb_Da_movedSets_2 p0  s g (b := .inr (.inl e4)) hs hX5) _ _ he4) ⟨rfl, ⟨rfl, trivial⟩⟩
  | inr re4 =>
    simp only [Sum.elim_inr] at h
    cases h
    exact ev_wk (L := [some (.int p0), some (.int (1 : Int32))]) (lp_ind (P := (fun (s : Int32) => Ev Lx 266 cd_266 2 [some (.int p0), some (.int s)] [] g (some (.int b), g))) (fun s s2 hs hP => tb_Da_movedSets_2 p0  s g (b := .inl s2) hs hP) (fun s hs => tb_Da_movedSets_2 p0  s g (b := .inr (.inr b)) hs rfl) _ _ he4) ⟨rfl, ⟨rfl, trivial⟩⟩
def b_Pl_standAt_8 (v0 : Nat) (v1 : Int32) (v2 : Int32) (g : M2) : Option ((Int32 × M2) ⊕ M2) := (if (12 : Int32) ≤ v2 then some (.inr g) else (if ((v1 >>> (v2 &&& 31)) &&& (1 : Int32)) = 0 then some (.inl ((v2 + (1 : Int32)), g)) else ((f_Pl_addElement v0 v2 (0 : Int32) g).bind fun q5 => some (.inl ((v2 + (1 : Int32)), q5)))))
theorem tb_Pl_standAt_8 {Lx : Nat} (v0 : Nat) (v1 : Int32) (hv0 : IsPlan v0) (v2 : Int32) (g : M2) {b : (Int32 × M2) ⊕ M2} {o : Option Value × M2} (h : b_Pl_standAt_8 v0 v1 v2 g = some b) (hb : Sum.elim (fun s => Ev Lx 267 cd_267 8 [some (.ref v0), some (.int v1), some (.int s.1)] [] s.2 o) (fun e => Ev Lx 267 cd_267 23 [] [] e o) b) : Ev Lx 267 cd_267 8 [some (.ref v0), some (.int v1), some (.int v2)] [] g o := by
  unfold b_Pl_standAt_8 at h
  refine ev_rn (n := 2) (i2 := 10) (L2 := [some (.ref v0), some (.int v1), some (.int v2)]) (st2 := [.int (12 : Int32), .int v2]) (g2 := g) cdE_267 rfl ?_
  by_cases hc3 : (12 : Int32) ≤ v2
  · rw [if_pos hc3] at h
    refine ev_ift cdE_267 rfl (cn_t hc3) ?_
    cases h
    exact ev_wk (L := []) hb trivial
  · rw [if_neg hc3] at h
    refine ev_iff rfl (cn_f hc3) ?_
    refine ev_rn (n := 5) (i2 := 16) (L2 := [some (.ref v0), some (.int v1), some (.int v2)]) (st2 := [.int ((v1 >>> (v2 &&& 31)) &&& (1 : Int32))]) (g2 := g) cdE_267 rfl ?_
    by_cases hc4 : ((v1 >>> (v2 &&& 31)) &&& (1 : Int32)) = 0
    · rw [if_pos hc4] at h
      refine ev_zft cdE_267 rfl (cn_t hc4) ?_
      refine ev_rn (n := 2) (i2 := 8) (L2 := [some (.ref v0), some (.int v1), some (.int (v2 + (1 : Int32)))]) (st2 := []) (g2 := g) cdE_267 rfl ?_
      cases h
      exact ev_wk (L := [some (.ref v0), some (.int v1), some (.int (v2 + (1 : Int32)))]) hb ⟨rfl, ⟨rfl, ⟨rfl, trivial⟩⟩⟩
    · rw [if_neg hc4] at h
      refine ev_zff rfl (cn_f hc4) ?_
      refine ev_rn (n := 3) (i2 := 20) (L2 := [some (.ref v0), some (.int v1), some (.int v2)]) (st2 := [.int (0 : Int32), .int v2, .ref v0]) (g2 := g) cdE_267 rfl ?_
      obtain ⟨q5, hq5, h⟩ := Option.bind_eq_some_iff.mp h
      refine ev_call rfl cdE_29 (cokV rfl rfl (pl_at hv0) rfl) rfl rfl (e_Pl_addElement v0 v2 (0 : Int32) hv0 g hq5) ?_
      refine ev_rn (n := 2) (i2 := 8) (L2 := [some (.ref v0), some (.int v1), some (.int (v2 + (1 : Int32)))]) (st2 := []) (g2 := q5) cdE_267 rfl ?_
      cases h
      exact ev_wk (L := [some (.ref v0), some (.int v1), some (.int (v2 + (1 : Int32)))]) hb ⟨rfl, ⟨rfl, ⟨rfl, trivial⟩⟩⟩
def f_Pl_standAt (a0 : Nat) (p0 : Int32) (g : M2) : Option (M2) := (bd (uI g a0 2 (0 : Int32)) fun g1 => (bd (uI g1 a0 3 (0 : Int32)) fun g2 => ((lp (fun s => b_Pl_standAt_8 a0 p0 s.1 s.2) 5000 ((0 : Int32), g2)).bind fun e6 => some e6)))
theorem e_Pl_standAt {Lx : Nat} (a0 : Nat) (p0 : Int32) (ha0 : IsPlan a0) (g : M2) {b : M2} (h : f_Pl_standAt a0 p0 g = some b) : Ev Lx 267 cd_267 0 [some (.ref a0), some (.int p0)] [] g (none, b) := by
  unfold f_Pl_standAt at h
  refine ev_rn (n := 2) (i2 := 2) (L2 := [some (.ref a0), some (.int p0)]) (st2 := [.int (0 : Int32), .ref a0]) (g2 := g) cdE_267 rfl ?_
  refine bd_elim h (fun g1 hg1 h => ?_)
  refine ev_pf (g2 := g1) rfl (pl_at ha0) (by decide) (by rw [hg1] <;> rfl) ?_
  refine ev_rn (n := 2) (i2 := 5) (L2 := [some (.ref a0), some (.int p0)]) (st2 := [.int (0 : Int32), .ref a0]) (g2 := g1) cdE_267 rfl ?_
  refine bd_elim h (fun g2 hg2 h => ?_)
  refine ev_pf (g2 := g2) rfl (pl_at ha0) (by decide) (by rw [hg2] <;> rfl) ?_
  refine ev_rn (n := 2) (i2 := 8) (L2 := [some (.ref a0), some (.int p0), some (.int (0 : Int32))]) (st2 := []) (g2 := g2) cdE_267 rfl ?_
  obtain ⟨e6, he6, h⟩ := Option.bind_eq_some_iff.mp h
  have hX7 : Ev Lx 267 cd_267 23 [] [] e6 (none, b) := by
    cases h
    exact ev_ret rfl rfl
  exact ev_wk (L := [some (.ref a0), some (.int p0), some (.int (0 : Int32))]) (lp_ind (P := (fun (s : (Int32 × M2)) => Ev Lx 267 cd_267 8 [some (.ref a0), some (.int p0), some (.int s.1)] [] s.2 (none, b))) (fun s s2 hs hP => tb_Pl_standAt_8 a0 p0 ha0 s.1 s.2 (b := .inl s2) hs hP) (fun s hs => tb_Pl_standAt_8 a0 p0 ha0 s.1 s.2 (b := .inr e6) hs hX7) _ _ he6) ⟨rfl, ⟨rfl, ⟨rfl, trivial⟩⟩⟩
def j_Da_placed_38 (v1 : Int32) (v2 : Int32) (v3 : Int32) (v4 : Int32) (v5 : Int32) (g : M2) : Option ((Int32 × Int32 × M2) ⊕ (Int32 × M2)) := (if v5 ≤ 0 then some (.inl (v3, (v4 + (1 : Int32)), g)) else ((f_Pl_standAt 73 v4 g).bind fun q9 => ((f_So_solve 72 q9).bind fun q10 => (if (q10.1 72 13) = 0 then some (.inl (v3, (v4 + (1 : Int32)), q10)) else ((f_Le_offer 72 v4 q10).bind fun q12 => some (.inl ((v3 + v5), (v4 + (1 : Int32)), q12)))))))
theorem tj_Da_placed_38 {Lx : Nat}  (v1 : Int32) (v2 : Int32) (v3 : Int32) (v4 : Int32) (v5 : Int32)  (g : M2) {b : (Int32 × Int32 × M2) ⊕ (Int32 × M2)} {o : Option Value × M2} (h : j_Da_placed_38 v1 v2 v3 v4 v5 g = some b) (hb : Sum.elim (fun s => Ev Lx 268 cd_268 26 [some (.ref 0), some (.int v1), some (.int v2), some (.int s.1), some (.int s.2.1)] [] s.2.2 o) (fun e => Ev Lx 268 cd_268 64 [some (.ref 0), none, some (.int v2), some (.int e.1)] [] e.2 o) b) : Ev Lx 268 cd_268 38 [some (.ref 0), some (.int v1), some (.int v2), some (.int v3), some (.int v4), some (.int v5)] [] g o := by
  unfold j_Da_placed_38 at h
  refine ev_rn (n := 1) (i2 := 39) (L2 := [some (.ref 0), some (.int v1), some (.int v2), some (.int v3), some (.int v4), some (.int v5)]) (st2 := [.int v5]) (g2 := g) cdE_268 rfl ?_
  by_cases hc8 : v5 ≤ 0
  · rw [if_pos hc8] at h
    refine ev_zft cdE_268 rfl (cn_t hc8) ?_
    refine ev_rn (n := 2) (i2 := 26) (L2 := [some (.ref 0), some (.int v1), some (.int v2), some (.int v3), some (.int (v4 + (1 : Int32))), some (.int v5)]) (st2 := []) (g2 := g) cdE_268 rfl ?_
    cases h
    exact ev_wk (L := [some (.ref 0), some (.int v1), some (.int v2), some (.int v3), some (.int (v4 + (1 : Int32)))]) hb ⟨rfl, ⟨rfl, ⟨rfl, ⟨rfl, ⟨rfl, trivial⟩⟩⟩⟩⟩
  · rw [if_neg hc8] at h
    refine ev_zff rfl (cn_f hc8) ?_
    refine ev_rn (n := 4) (i2 := 44) (L2 := [some (.ref 0), some (.int v1), some (.int v2), some (.int v3), some (.int v4), some (.int v5)]) (st2 := [.int v4, .ref 73]) (g2 := g) cdE_268 rfl ?_
    obtain ⟨q9, hq9, h⟩ := Option.bind_eq_some_iff.mp h
    refine ev_call rfl cdE_267 rfl rfl rfl (e_Pl_standAt 73 v4 (by decide) g hq9) ?_
    refine ev_rn (n := 2) (i2 := 47) (L2 := [some (.ref 0), some (.int v1), some (.int v2), some (.int v3), some (.int v4), some (.int v5)]) (st2 := [.ref 72]) (g2 := q9) cdE_268 rfl ?_
    obtain ⟨q10, hq10, h⟩ := Option.bind_eq_some_iff.mp h
    refine ev_call rfl cdE_95 rfl rfl rfl (e_So_solve 72 (by decide) q9 hq10) ?_
    refine ev_rn (n := 3) (i2 := 51) (L2 := [some (.ref 0), some (.int v1), some (.int v2), some (.int v3), some (.int v4), some (.int v5)]) (st2 := [.int (q10.1 72 13)]) (g2 := q10) cdE_268 rfl ?_
    by_cases hc11 : (q10.1 72 13) = 0
    · rw [if_pos hc11] at h
      refine ev_zft cdE_268 rfl (cn_t hc11) ?_
      refine ev_rn (n := 2) (i2 := 26) (L2 := [some (.ref 0), some (.int v1), some (.int v2), some (.int v3), some (.int (v4 + (1 : Int32))), some (.int v5)]) (st2 := []) (g2 := q10) cdE_268 rfl ?_
      cases h
      exact ev_wk (L := [some (.ref 0), some (.int v1), some (.int v2), some (.int v3), some (.int (v4 + (1 : Int32)))]) hb ⟨rfl, ⟨rfl, ⟨rfl, ⟨rfl, ⟨rfl, trivial⟩⟩⟩⟩⟩
    · rw [if_neg hc11] at h
      refine ev_zff rfl (cn_f hc11) ?_
      refine ev_rn (n := 9) (i2 := 61) (L2 := [some (.ref 0), some (.int v1), some (.int v2), some (.int (v3 + v5)), some (.int v4), some (.int v5)]) (st2 := [.int v4, .ref 72, .ref 151]) (g2 := q10) cdE_268 rfl ?_
      obtain ⟨q12, hq12, h⟩ := Option.bind_eq_some_iff.mp h
      refine ev_call rfl cdE_255 rfl rfl rfl (e_Le_offer 72 v4 (by decide) q10 hq12) ?_
      refine ev_rn (n := 2) (i2 := 26) (L2 := [some (.ref 0), some (.int v1), some (.int v2), some (.int (v3 + v5)), some (.int (v4 + (1 : Int32))), some (.int v5)]) (st2 := []) (g2 := q12) cdE_268 rfl ?_
      cases h
      exact ev_wk (L := [some (.ref 0), some (.int v1), some (.int v2), some (.int (v3 + v5)), some (.int (v4 + (1 : Int32)))]) hb ⟨rfl, ⟨rfl, ⟨rfl, ⟨rfl, ⟨rfl, trivial⟩⟩⟩⟩⟩
def b_Da_placed_26 (v1 : Int32) (v2 : Int32) (v3 : Int32) (v4 : Int32) (g : M2) : Option ((Int32 × Int32 × M2) ⊕ (Int32 × M2)) := (if (4095 : Int32) < v4 then some (.inr (v3, g)) else (if (f_In_bitCount v4 g) = v1 then ((f_Da_movedSets v4 g).bind fun q13 => (j_Da_placed_38 v1 v2 v3 v4 q13 g)) else (j_Da_placed_38 v1 v2 v3 v4 (0 : Int32) g)))
theorem tb_Da_placed_26 {Lx : Nat} (v1 : Int32) (v2 : Int32)  (v3 : Int32) (v4 : Int32) (g : M2) {b : (Int32 × Int32 × M2) ⊕ (Int32 × M2)} {o : Option Value × M2} (h : b_Da_placed_26 v1 v2 v3 v4 g = some b) (hb : Sum.elim (fun s => Ev Lx 268 cd_268 26 [some (.ref 0), some (.int v1), some (.int v2), some (.int s.1), some (.int s.2.1)] [] s.2.2 o) (fun e => Ev Lx 268 cd_268 64 [some (.ref 0), none, some (.int v2), some (.int e.1)] [] e.2 o) b) : Ev Lx 268 cd_268 26 [some (.ref 0), some (.int v1), some (.int v2), some (.int v3), some (.int v4)] [] g o := by
  unfold b_Da_placed_26 at h
  refine ev_rn (n := 2) (i2 := 28) (L2 := [some (.ref 0), some (.int v1), some (.int v2), some (.int v3), some (.int v4)]) (st2 := [.int (4095 : Int32), .int v4]) (g2 := g) cdE_268 rfl ?_
  by_cases hc6 : (4095 : Int32) < v4
  · rw [if_pos hc6] at h
    refine ev_ift cdE_268 rfl (cn_t hc6) ?_
    cases h
    exact ev_wk (L := [some (.ref 0), none, some (.int v2), some (.int v3)]) hb ⟨rfl, ⟨rfl, ⟨rfl, trivial⟩⟩⟩
  · rw [if_neg hc6] at h
    refine ev_iff rfl (cn_f hc6) ?_
    refine ev_rn (n := 1) (i2 := 30) (L2 := [some (.ref 0), some (.int v1), some (.int v2), some (.int v3), some (.int v4)]) (st2 := [.int v4]) (g2 := g) cdE_268 rfl ?_
    refine ev_call rfl cdE_57 rfl rfl rfl (e_In_bitCount v4  g rfl) ?_
    refine ev_rn (n := 1) (i2 := 32) (L2 := [some (.ref 0), some (.int v1), some (.int v2), some (.int v3), some (.int v4)]) (st2 := [.int v1, .int (f_In_bitCount v4 g)]) (g2 := g) cdE_268 rfl ?_
    by_cases hc7 : (f_In_bitCount v4 g) = v1
    · rw [if_pos hc7] at h
      refine ev_iff rfl (cn_f (fun q => q hc7)) ?_
      refine ev_rn (n := 1) (i2 := 34) (L2 := [some (.ref 0), some (.int v1), some (.int v2), some (.int v3), some (.int v4)]) (st2 := [.int v4]) (g2 := g) cdE_268 rfl ?_
      obtain ⟨q13, hq13, h⟩ := Option.bind_eq_some_iff.mp h
      refine ev_call rfl cdE_266 rfl rfl rfl (e_Da_movedSets v4  g hq13) ?_
      refine ev_rn (n := 2) (i2 := 38) (L2 := [some (.ref 0), some (.int v1), some (.int v2), some (.int v3), some (.int v4), some (.int q13)]) (st2 := []) (g2 := g) cdE_268 rfl ?_
      exact ev_wk (L := [some (.ref 0), some (.int v1), some (.int v2), some (.int v3), some (.int v4), some (.int q13)]) (tj_Da_placed_38  v1 v2 v3 v4 q13  g h hb) ⟨rfl, ⟨rfl, ⟨rfl, ⟨rfl, ⟨rfl, ⟨rfl, trivial⟩⟩⟩⟩⟩⟩
    · rw [if_neg hc7] at h
      refine ev_ift cdE_268 rfl (cn_t hc7) ?_
      refine ev_rn (n := 2) (i2 := 38) (L2 := [some (.ref 0), some (.int v1), some (.int v2), some (.int v3), some (.int v4), some (.int (0 : Int32))]) (st2 := []) (g2 := g) cdE_268 rfl ?_
      exact ev_wk (L := [some (.ref 0), some (.int v1), some (.int v2), some (.int v3), some (.int v4), some (.int (0 : Int32))]) (tj_Da_placed_38  v1 v2 v3 v4 (0 : Int32)  g h hb) ⟨rfl, ⟨rfl, ⟨rfl, ⟨rfl, ⟨rfl, ⟨rfl, trivial⟩⟩⟩⟩⟩⟩
def f_Da_placed (p0 : Int32) (p1 : Int32) (g : M2) : Option (Int32 × M2) := (if p0 < (1 : Int32) then some ((-2 : Int32), g) else (if (5 : Int32) < p0 then some ((-2 : Int32), g) else (if (f_Da_isAmong p1 (2 : Int32) g) = 0 then some ((-2 : Int32), g) else ((f_Le_clear g).bind fun q4 => ((f_Pl_copy 73 7 q4).bind fun q5 => ((lp (fun s => b_Da_placed_26 p0 p1 s.1 s.2.1 s.2.2) 5000 ((0 : Int32), (0 : Int32), q5)).bind fun e14 => (if p1 = 0 then some (e14.1, e14.2) else some ((e14.2.1 151 0), e14.2))))))))
theorem e_Da_placed {Lx : Nat} (p0 : Int32) (p1 : Int32)  (g : M2) {b : (Int32 × M2)} (h : f_Da_placed p0 p1 g = some b) : Ev Lx 268 cd_268 0 [some (.ref 0), some (.int p0), some (.int p1)] [] g (some (.int b.1), b.2) := by
  unfold f_Da_placed at h
  refine ev_rn (n := 2) (i2 := 2) (L2 := [some (.ref 0), some (.int p0), some (.int p1)]) (st2 := [.int (1 : Int32), .int p0]) (g2 := g) cdE_268 rfl ?_
  by_cases hc1 : p0 < (1 : Int32)
  · rw [if_pos hc1] at h
    refine ev_ift cdE_268 rfl (cn_t hc1) ?_
    refine ev_rn (n := 1) (i2 := 11) (L2 := [some (.ref 0), some (.int p0), some (.int p1)]) (st2 := [.int (-2 : Int32)]) (g2 := g) cdE_268 rfl ?_
    cases h
    exact ev_ret rfl rfl
  · rw [if_neg hc1] at h
    refine ev_iff rfl (cn_f hc1) ?_
    refine ev_rn (n := 2) (i2 := 5) (L2 := [some (.ref 0), some (.int p0), some (.int p1)]) (st2 := [.int (5 : Int32), .int p0]) (g2 := g) cdE_268 rfl ?_
    by_cases hc2 : (5 : Int32) < p0
    · rw [if_pos hc2] at h
      refine ev_ift cdE_268 rfl (cn_t hc2) ?_
      refine ev_rn (n := 1) (i2 := 11) (L2 := [some (.ref 0), some (.int p0), some (.int p1)]) (st2 := [.int (-2 : Int32)]) (g2 := g) cdE_268 rfl ?_
      cases h
      exact ev_ret rfl rfl
    · rw [if_neg hc2] at h
      refine ev_iff rfl (cn_f hc2) ?_
      refine ev_rn (n := 2) (i2 := 8) (L2 := [some (.ref 0), some (.int p0), some (.int p1)]) (st2 := [.int (2 : Int32), .int p1]) (g2 := g) cdE_268 rfl ?_
      refine ev_call rfl cdE_65 rfl rfl rfl (e_Da_isAmong p1 (2 : Int32)  g rfl) ?_
      by_cases hc3 : (f_Da_isAmong p1 (2 : Int32) g) = 0
      · rw [if_pos hc3] at h
        refine ev_zff rfl (cn_f (fun q => q hc3)) ?_
        refine ev_rn (n := 1) (i2 := 11) (L2 := [some (.ref 0), some (.int p0), some (.int p1)]) (st2 := [.int (-2 : Int32)]) (g2 := g) cdE_268 rfl ?_
        cases h
        exact ev_ret rfl rfl
      · rw [if_neg hc3] at h
        refine ev_zft cdE_268 rfl (cn_t hc3) ?_
        refine ev_rn (n := 4) (i2 := 16) (L2 := [some (.ref 0), some (.int p0), some (.int p1), some (.int (0 : Int32))]) (st2 := [.ref 151]) (g2 := g) cdE_268 rfl ?_
        obtain ⟨q4, hq4, h⟩ := Option.bind_eq_some_iff.mp h
        refine ev_call rfl cdE_254 rfl rfl rfl (e_Le_clear   g hq4) ?_
        refine ev_rn (n := 6) (i2 := 23) (L2 := [some (.ref 0), some (.int p0), some (.int p1), some (.int (0 : Int32))]) (st2 := [.ref 7, .ref 73]) (g2 := q4) cdE_268 rfl ?_
        obtain ⟨q5, hq5, h⟩ := Option.bind_eq_some_iff.mp h
        refine ev_call rfl cdE_40 rfl rfl rfl (e_Pl_copy 73 7 (by decide) (by decide) q4 hq5) ?_
        refine ev_rn (n := 2) (i2 := 26) (L2 := [some (.ref 0), some (.int p0), some (.int p1), some (.int (0 : Int32)), some (.int (0 : Int32))]) (st2 := []) (g2 := q5) cdE_268 rfl ?_
        obtain ⟨e14, he14, h⟩ := Option.bind_eq_some_iff.mp h
        have hX16 : Ev Lx 268 cd_268 64 [some (.ref 0), none, some (.int p1), some (.int e14.1)] [] e14.2 (some (.int b.1), b.2) := by
          refine ev_rn (n := 1) (i2 := 65) (L2 := [some (.ref 0), none, some (.int p1), some (.int e14.1)]) (st2 := [.int p1]) (g2 := e14.2) cdE_268 rfl ?_
          by_cases hc15 : p1 = 0
          · rw [if_pos hc15] at h
            refine ev_zff rfl (cn_f (fun q => q hc15)) ?_
            refine ev_rn (n := 2) (i2 := 71) (L2 := [some (.ref 0), none, some (.int p1), some (.int e14.1)]) (st2 := [.int e14.1]) (g2 := e14.2) cdE_268 rfl ?_
            cases h
            exact ev_ret rfl rfl
          · rw [if_neg hc15] at h
            refine ev_zft cdE_268 rfl (cn_t hc15) ?_
            refine ev_rn (n := 3) (i2 := 71) (L2 := [some (.ref 0), none, some (.int p1), some (.int e14.1)]) (st2 := [.int (e14.2.1 151 0)]) (g2 := e14.2) cdE_268 rfl ?_
            cases h
            exact ev_ret rfl rfl
        exact ev_wk (L := [some (.ref 0), some (.int p0), some (.int p1), some (.int (0 : Int32)), some (.int (0 : Int32))]) (lp_ind (P := (fun (s : (Int32 × Int32 × M2)) => Ev Lx 268 cd_268 26 [some (.ref 0), some (.int p0), some (.int p1), some (.int s.1), some (.int s.2.1)] [] s.2.2 (some (.int b.1), b.2))) (fun s s2 hs hP => tb_Da_placed_26 p0 p1  s.1 s.2.1 s.2.2 (b := .inl s2) hs hP) (fun s hs => tb_Da_placed_26 p0 p1  s.1 s.2.1 s.2.2 (b := .inr e14) hs hX16) _ _ he14) ⟨rfl, ⟨rfl, ⟨rfl, ⟨rfl, ⟨rfl, trivial⟩⟩⟩⟩⟩
