def b_Mo_sets_4  (v1 : Int32) (v2 : Int32) (g : M2) : Option ((Int32 × Int32) ⊕ Int32) := (if (12 : Int32) ≤ v2 then some (.inr v1) else ((f_Mo_twinsOf v2 g).bind fun q2 => (if (f_In_numberOfTrailingZeros q2 g) = v2 then some (.inl ((v1 + (1 : Int32)), (v2 + (1 : Int32)))) else some (.inl ((v1 + (0 : Int32)), (v2 + (1 : Int32)))))))
theorem tb_Mo_sets_4 {Lx : Nat}   (v1 : Int32) (v2 : Int32) (g : M2) {b : (Int32 × Int32) ⊕ Int32} {o : Option Value × M2} (h : b_Mo_sets_4 v1 v2 g = some b) (hb : Sum.elim (fun s => Ev Lx 192 cd_192 4 [some (.ref 157), some (.int s.1), some (.int s.2)] [] g o) (fun e => Ev Lx 192 cd_192 21 [none, some (.int e)] [] g o) b) : Ev Lx 192 cd_192 4 [some (.ref 157), some (.int v1), some (.int v2)] [] g o := by
  unfold b_Mo_sets_4 at h
  refine ev_rn (n := 2) (i2 := 6) (L2 := [some (.ref 157), some (.int v1), some (.int v2)]) (st2 := [.int (12 : Int32), .int v2]) (g2 := g) cdE_192 rfl ?_
  by_cases hc1 : (12 : Int32) ≤ v2
  · rw [if_pos hc1] at h
    refine ev_ift cdE_192 rfl (cn_t hc1) ?_
    cases h
    exact ev_wk (L := [none, some (.int v1)]) hb ⟨rfl, trivial⟩
  · rw [if_neg hc1] at h
    refine ev_iff rfl (cn_f hc1) ?_
    refine ev_rn (n := 3) (i2 := 10) (L2 := [some (.ref 157), some (.int v1), some (.int v2)]) (st2 := [.int v2, .ref 157, .int v1]) (g2 := g) cdE_192 rfl ?_
    obtain ⟨q2, hq2, h⟩ := Option.bind_eq_some_iff.mp h
    refine ev_call rfl cdE_176 rfl rfl rfl (e_Mo_twinsOf v2  g hq2) ?_
    refine ev_call rfl cdE_191 rfl rfl rfl (e_In_numberOfTrailingZeros q2  g rfl) ?_
    refine ev_rn (n := 1) (i2 := 13) (L2 := [some (.ref 157), some (.int v1), some (.int v2)]) (st2 := [.int v2, .int (f_In_numberOfTrailingZeros q2 g), .int v1]) (g2 := g) cdE_192 rfl ?_
    by_cases hc3 : (f_In_numberOfTrailingZeros q2 g) = v2
    · rw [if_pos hc3] at h
      refine ev_iff rfl (cn_f (fun q => q hc3)) ?_
      refine ev_rn (n := 5) (i2 := 20) (L2 := [some (.ref 157), some (.int (v1 + (1 : Int32))), some (.int (v2 + (1 : Int32)))]) (st2 := []) (g2 := g) cdE_192 rfl ?_
      refine ev_rn (n := 1) (i2 := 4) (L2 := [some (.ref 157), some (.int (v1 + (1 : Int32))), some (.int (v2 + (1 : Int32)))]) (st2 := []) (g2 := g) cdE_192 rfl ?_
      cases h
      exact ev_wk (L := [some (.ref 157), some (.int (v1 + (1 : Int32))), some (.int (v2 + (1 : Int32)))]) hb ⟨rfl, ⟨rfl, ⟨rfl, trivial⟩⟩⟩
    · rw [if_neg hc3] at h
      refine ev_ift cdE_192 rfl (cn_t hc3) ?_
      refine ev_rn (n := 4) (i2 := 20) (L2 := [some (.ref 157), some (.int (v1 + (0 : Int32))), some (.int (v2 + (1 : Int32)))]) (st2 := []) (g2 := g) cdE_192 rfl ?_
      refine ev_rn (n := 1) (i2 := 4) (L2 := [some (.ref 157), some (.int (v1 + (0 : Int32))), some (.int (v2 + (1 : Int32)))]) (st2 := []) (g2 := g) cdE_192 rfl ?_
      cases h
      exact ev_wk (L := [some (.ref 157), some (.int (v1 + (0 : Int32))), some (.int (v2 + (1 : Int32)))]) hb ⟨rfl, ⟨rfl, ⟨rfl, trivial⟩⟩⟩
def f_Mo_sets  (g : M2) : Option (Int32) := ((lp (fun s => b_Mo_sets_4  s.1 s.2 g) 5000 ((0 : Int32), (0 : Int32))).bind fun e4 => some e4)
theorem e_Mo_sets {Lx : Nat}   (g : M2) {b : Int32} (h : f_Mo_sets  g = some b) : Ev Lx 192 cd_192 0 [some (.ref 157)] [] g (some (.int b), g) := by
  unfold f_Mo_sets at h
  refine ev_rn (n := 4) (i2 := 4) (L2 := [some (.ref 157), some (.int (0 : Int32)), some (.int (0 : Int32))]) (st2 := []) (g2 := g) cdE_192 rfl ?_
  obtain ⟨e4, he4, h⟩ := Option.bind_eq_some_iff.mp h
  have hX5 : Ev Lx 192 cd_192 21 [none, some (.int e4)] [] g (some (.int b), g) := by
    refine ev_rn (n := 1) (i2 := 22) (L2 := [none, some (.int e4)]) (st2 := [.int e4]) (g2 := g) cdE_192 rfl ?_
    cases h
    exact ev_ret rfl rfl
  exact ev_wk (L := [some (.ref 157), some (.int (0 : Int32)), some (.int (0 : Int32))]) (lp_ind (P := (fun (s : (Int32 × Int32)) => Ev Lx 192 cd_192 4 [some (.ref 157), some (.int s.1), some (.int s.2)] [] g (some (.int b), g))) (fun s s2 hs hP => tb_Mo_sets_4   s.1 s.2 g (b := .inl s2) hs hP) (fun s hs => tb_Mo_sets_4   s.1 s.2 g (b := .inr e4) hs hX5) _ _ he4) ⟨rfl, ⟨rfl, ⟨rfl, trivial⟩⟩⟩
def f_Da_holdsBroken (p0 : Int32) (g : M2) : Option (Int32 × M2) := ((f_Pl_copy 73 7 g).bind fun q1 => (bd (uI q1 73 3 p0) fun g2 => ((f_So_solve 72 g2).bind fun q3 => some (((q3.1 72 13) &&& 1), q3))))
theorem e_Da_holdsBroken {Lx : Nat} (p0 : Int32)  (g : M2) {b : (Int32 × M2)} (h : f_Da_holdsBroken p0 g = some b) : Ev Lx 193 cd_193 0 [some (.ref 0), some (.int p0)] [] g (some (.int b.1), b.2) := by
  unfold f_Da_holdsBroken at h
  refine ev_rn (n := 6) (i2 := 6) (L2 := [some (.ref 0), some (.int p0)]) (st2 := [.ref 7, .ref 73]) (g2 := g) cdE_193 rfl ?_
  obtain ⟨q1, hq1, h⟩ := Option.bind_eq_some_iff.mp h
  refine ev_call rfl cdE_40 rfl rfl rfl (e_Pl_copy 73 7 (by decide) (by decide) g hq1) ?_
  refine ev_rn (n := 4) (i2 := 11) (L2 := [some (.ref 0), some (.int p0)]) (st2 := [.int p0, .ref 73]) (g2 := q1) cdE_193 rfl ?_
  refine bd_elim h (fun g2 hg2 h => ?_)
  refine ev_pf (g2 := g2) rfl (rfl : S0[73]? = some _) (by decide) (by rw [hg2] <;> rfl) ?_
  refine ev_rn (n := 2) (i2 := 14) (L2 := [some (.ref 0), some (.int p0)]) (st2 := [.ref 72]) (g2 := g2) cdE_193 rfl ?_
  obtain ⟨q3, hq3, h⟩ := Option.bind_eq_some_iff.mp h
  refine ev_call rfl cdE_95 rfl rfl rfl (e_So_solve 72 (by decide) g2 hq3) ?_
  refine ev_rn (n := 3) (i2 := 18) (L2 := [some (.ref 0), some (.int p0)]) (st2 := [.int (q3.1 72 13)]) (g2 := q3) cdE_193 rfl ?_
  cases h
  exact ev_ret rfl rfl
def f_Da_without (p0 : Int32) (p1 : Int32) (g : M2) : Option (Int32 × M2) := (if (f_Pl_has 7 p0 g) = 0 then some ((-2 : Int32), g) else (if (f_Da_isAmong p1 (2 : Int32) g) = 0 then some ((-2 : Int32), g) else ((f_Da_holdsBroken ((g.1 7 3) ||| ((1 : Int32) <<< (p0 &&& 31))) g).bind fun q3 => (if p1 = (1 : Int32) then some ((q3.2.1 72 12), q3.2) else (if q3.1 = 0 then some ((0 : Int32), q3.2) else some ((1 : Int32), q3.2))))))
theorem e_Da_without {Lx : Nat} (p0 : Int32) (p1 : Int32)  (g : M2) {b : (Int32 × M2)} (h : f_Da_without p0 p1 g = some b) : Ev Lx 194 cd_194 0 [some (.ref 0), some (.int p0), some (.int p1)] [] g (some (.int b.1), b.2) := by
  unfold f_Da_without at h
  refine ev_rn (n := 4) (i2 := 4) (L2 := [some (.ref 0), some (.int p0), some (.int p1)]) (st2 := [.int p0, .ref 7]) (g2 := g) cdE_194 rfl ?_
  refine ev_call rfl cdE_66 rfl rfl rfl (e_Pl_has 7 p0 (by decide) g rfl) ?_
  by_cases hc1 : (f_Pl_has 7 p0 g) = 0
  · rw [if_pos hc1] at h
    refine ev_zft cdE_194 rfl (cn_t hc1) ?_
    refine ev_rn (n := 1) (i2 := 11) (L2 := [some (.ref 0), some (.int p0), some (.int p1)]) (st2 := [.int (-2 : Int32)]) (g2 := g) cdE_194 rfl ?_
    cases h
    exact ev_ret rfl rfl
  · rw [if_neg hc1] at h
    refine ev_zff rfl (cn_f hc1) ?_
    refine ev_rn (n := 2) (i2 := 8) (L2 := [some (.ref 0), some (.int p0), some (.int p1)]) (st2 := [.int (2 : Int32), .int p1]) (g2 := g) cdE_194 rfl ?_
    refine ev_call rfl cdE_65 rfl rfl rfl (e_Da_isAmong p1 (2 : Int32)  g rfl) ?_
    by_cases hc2 : (f_Da_isAmong p1 (2 : Int32) g) = 0
    · rw [if_pos hc2] at h
      refine ev_zff rfl (cn_f (fun q => q hc2)) ?_
      refine ev_rn (n := 1) (i2 := 11) (L2 := [some (.ref 0), some (.int p0), some (.int p1)]) (st2 := [.int (-2 : Int32)]) (g2 := g) cdE_194 rfl ?_
      cases h
      exact ev_ret rfl rfl
    · rw [if_neg hc2] at h
      refine ev_zft cdE_194 rfl (cn_t hc2) ?_
      refine ev_rn (n := 9) (i2 := 21) (L2 := [some (.ref 0), some (.int p0), some (.int p1)]) (st2 := [.int ((g.1 7 3) ||| ((1 : Int32) <<< (p0 &&& 31))), .ref 0]) (g2 := g) cdE_194 rfl ?_
      obtain ⟨q3, hq3, h⟩ := Option.bind_eq_some_iff.mp h
      refine ev_call rfl cdE_193 rfl rfl rfl (e_Da_holdsBroken ((g.1 7 3) ||| ((1 : Int32) <<< (p0 &&& 31)))  g hq3) ?_
      refine ev_rn (n := 3) (i2 := 25) (L2 := [some (.ref 0), some (.int p0), some (.int p1), some (.int q3.1)]) (st2 := [.int (1 : Int32), .int p1]) (g2 := q3.2) cdE_194 rfl ?_
      by_cases hc4 : p1 = (1 : Int32)
      · rw [if_pos hc4] at h
        refine ev_iff rfl (cn_f (fun q => q hc4)) ?_
        refine ev_rn (n := 3) (i2 := 29) (L2 := [some (.ref 0), some (.int p0), some (.int p1), some (.int q3.1)]) (st2 := [.int (q3.2.1 72 12)]) (g2 := q3.2) cdE_194 rfl ?_
        cases h
        exact ev_ret rfl rfl
      · rw [if_neg hc4] at h
        refine ev_ift cdE_194 rfl (cn_t hc4) ?_
        refine ev_rn (n := 1) (i2 := 31) (L2 := [some (.ref 0), some (.int p0), some (.int p1), some (.int q3.1)]) (st2 := [.int q3.1]) (g2 := q3.2) cdE_194 rfl ?_
        by_cases hc5 : q3.1 = 0
        · rw [if_pos hc5] at h
          refine ev_zft cdE_194 rfl (cn_t hc5) ?_
          refine ev_rn (n := 1) (i2 := 35) (L2 := [some (.ref 0), some (.int p0), some (.int p1), some (.int q3.1)]) (st2 := [.int (0 : Int32)]) (g2 := q3.2) cdE_194 rfl ?_
          cases h
          exact ev_ret rfl rfl
        · rw [if_neg hc5] at h
          refine ev_zff rfl (cn_f hc5) ?_
          refine ev_rn (n := 2) (i2 := 35) (L2 := [some (.ref 0), some (.int p0), some (.int p1), some (.int q3.1)]) (st2 := [.int (1 : Int32)]) (g2 := q3.2) cdE_194 rfl ?_
          cases h
          exact ev_ret rfl rfl
def f_Mo_without (p0 : Int32) (p1 : Int32) (g : M2) : Option (Int32 × M2) := ((f_Mo_isElement p0 g).bind fun q1 => (if q1 = 0 then some ((-2 : Int32), g) else (if (f_Mo_in p1.toInt64 (0 : Int64) (1 : Int64) g) = 0 then some ((-2 : Int32), g) else ((f_Mo_lookNow g).bind fun q4 => ((f_Mo_solvesWith ((1 : Int32) <<< (p0 &&& 31)) q4 g).bind fun q5 => (if p1 = 0 then (if (q5.1 157 15) = 0 then some ((0 : Int32), q5) else some ((1 : Int32), q5)) else some ((q5.1 157 14), q5)))))))
theorem e_Mo_without {Lx : Nat} (p0 : Int32) (p1 : Int32)  (g : M2) {b : (Int32 × M2)} (h : f_Mo_without p0 p1 g = some b) : Ev Lx 195 cd_195 0 [some (.ref 157), some (.int p0), some (.int p1)] [] g (some (.int b.1), b.2) := by
  unfold f_Mo_without at h
  refine ev_rn (n := 2) (i2 := 2) (L2 := [some (.ref 157), some (.int p0), some (.int p1)]) (st2 := [.int p0, .ref 157]) (g2 := g) cdE_195 rfl ?_
  obtain ⟨q1, hq1, h⟩ := Option.bind_eq_some_iff.mp h
  refine ev_call rfl cdE_69 rfl rfl rfl (e_Mo_isElement p0  g hq1) ?_
  by_cases hc2 : q1 = 0
  · rw [if_pos hc2] at h
    refine ev_zft cdE_195 rfl (cn_t hc2) ?_
    refine ev_rn (n := 1) (i2 := 11) (L2 := [some (.ref 157), some (.int p0), some (.int p1)]) (st2 := [.int (-2 : Int32)]) (g2 := g) cdE_195 rfl ?_
    cases h
    exact ev_ret rfl rfl
  · rw [if_neg hc2] at h
    refine ev_zff rfl (cn_f hc2) ?_
    refine ev_rn (n := 4) (i2 := 8) (L2 := [some (.ref 157), some (.int p0), some (.int p1)]) (st2 := [.long (1 : Int64), .long (0 : Int64), .long p1.toInt64]) (g2 := g) cdE_195 rfl ?_
    refine ev_call rfl cdE_16 rfl rfl rfl (e_Mo_in p1.toInt64 (0 : Int64) (1 : Int64)  g rfl) ?_
    by_cases hc3 : (f_Mo_in p1.toInt64 (0 : Int64) (1 : Int64) g) = 0
    · rw [if_pos hc3] at h
      refine ev_zff rfl (cn_f (fun q => q hc3)) ?_
      refine ev_rn (n := 1) (i2 := 11) (L2 := [some (.ref 157), some (.int p0), some (.int p1)]) (st2 := [.int (-2 : Int32)]) (g2 := g) cdE_195 rfl ?_
      cases h
      exact ev_ret rfl rfl
    · rw [if_neg hc3] at h
      refine ev_zft cdE_195 rfl (cn_t hc3) ?_
      refine ev_rn (n := 5) (i2 := 17) (L2 := [some (.ref 157), some (.int p0), some (.int p1)]) (st2 := [.ref 157, .int ((1 : Int32) <<< (p0 &&& 31)), .ref 157]) (g2 := g) cdE_195 rfl ?_
      obtain ⟨q4, hq4, h⟩ := Option.bind_eq_some_iff.mp h
      refine ev_call rfl cdE_63 rfl rfl rfl (e_Mo_lookNow   g hq4) ?_
      obtain ⟨q5, hq5, h⟩ := Option.bind_eq_some_iff.mp h
      refine ev_call rfl cdE_117 rfl rfl rfl (e_Mo_solvesWith ((1 : Int32) <<< (p0 &&& 31)) q4  g hq5) ?_
      refine ev_rn (n := 1) (i2 := 20) (L2 := [some (.ref 157), some (.int p0), some (.int p1)]) (st2 := [.int p1]) (g2 := q5) cdE_195 rfl ?_
      by_cases hc6 : p1 = 0
      · rw [if_pos hc6] at h
        refine ev_zff rfl (cn_f (fun q => q hc6)) ?_
        refine ev_rn (n := 2) (i2 := 23) (L2 := [some (.ref 157), some (.int p0), some (.int p1)]) (st2 := [.int (q5.1 157 15)]) (g2 := q5) cdE_195 rfl ?_
        by_cases hc7 : (q5.1 157 15) = 0
        · rw [if_pos hc7] at h
          refine ev_zft cdE_195 rfl (cn_t hc7) ?_
          refine ev_rn (n := 2) (i2 := 30) (L2 := [some (.ref 157), some (.int p0), some (.int p1)]) (st2 := [.int (0 : Int32)]) (g2 := q5) cdE_195 rfl ?_
          cases h
          exact ev_ret rfl rfl
        · rw [if_neg hc7] at h
          refine ev_zff rfl (cn_f hc7) ?_
          refine ev_rn (n := 2) (i2 := 30) (L2 := [some (.ref 157), some (.int p0), some (.int p1)]) (st2 := [.int (1 : Int32)]) (g2 := q5) cdE_195 rfl ?_
          cases h
          exact ev_ret rfl rfl
      · rw [if_neg hc6] at h
        refine ev_zft cdE_195 rfl (cn_t hc6) ?_
        refine ev_rn (n := 2) (i2 := 30) (L2 := [some (.ref 157), some (.int p0), some (.int p1)]) (st2 := [.int (q5.1 157 14)]) (g2 := q5) cdE_195 rfl ?_
        cases h
        exact ev_ret rfl rfl
def b_Da_spares_4  (v1 : Int32) (v2 : Int32) (g : M2) : Option ((Int32 × Int32 × M2) ⊕ (Int32 × M2)) := (if (g.1 7 2) ≤ v2 then some (.inr (v1, g)) else (if (f_Pl_works 7 v2 g) = 0 then some (.inl (v1, (v2 + (1 : Int32)), g)) else ((f_Da_holdsBroken ((g.1 7 3) ||| ((1 : Int32) <<< (v2 &&& 31))) g).bind fun q3 => (if q3.1 = 0 then some (.inl (v1, (v2 + (1 : Int32)), q3.2)) else some (.inl ((v1 ||| ((1 : Int32) <<< (v2 &&& 31))), (v2 + (1 : Int32)), q3.2))))))
theorem tb_Da_spares_4 {Lx : Nat}   (v1 : Int32) (v2 : Int32) (g : M2) {b : (Int32 × Int32 × M2) ⊕ (Int32 × M2)} {o : Option Value × M2} (h : b_Da_spares_4 v1 v2 g = some b) (hb : Sum.elim (fun s => Ev Lx 196 cd_196 4 [some (.ref 0), some (.int s.1), some (.int s.2.1)] [] s.2.2 o) (fun e => Ev Lx 196 cd_196 35 [none, some (.int e.1)] [] e.2 o) b) : Ev Lx 196 cd_196 4 [some (.ref 0), some (.int v1), some (.int v2)] [] g o := by
  unfold b_Da_spares_4 at h
  refine ev_rn (n := 5) (i2 := 9) (L2 := [some (.ref 0), some (.int v1), some (.int v2)]) (st2 := [.int (g.1 7 2), .int v2]) (g2 := g) cdE_196 rfl ?_
  by_cases hc1 : (g.1 7 2) ≤ v2
  · rw [if_pos hc1] at h
    refine ev_ift cdE_196 rfl (cn_t hc1) ?_
    cases h
    exact ev_wk (L := [none, some (.int v1)]) hb ⟨rfl, trivial⟩
  · rw [if_neg hc1] at h
    refine ev_iff rfl (cn_f hc1) ?_
    refine ev_rn (n := 4) (i2 := 14) (L2 := [some (.ref 0), some (.int v1), some (.int v2)]) (st2 := [.int v2, .ref 7]) (g2 := g) cdE_196 rfl ?_
    refine ev_call rfl cdE_67 rfl rfl rfl (e_Pl_works 7 v2 (by decide) g rfl) ?_
    by_cases hc2 : (f_Pl_works 7 v2 g) = 0
    · rw [if_pos hc2] at h
      refine ev_zft cdE_196 rfl (cn_t hc2) ?_
      refine ev_rn (n := 2) (i2 := 4) (L2 := [some (.ref 0), some (.int v1), some (.int (v2 + (1 : Int32)))]) (st2 := []) (g2 := g) cdE_196 rfl ?_
      cases h
      exact ev_wk (L := [some (.ref 0), some (.int v1), some (.int (v2 + (1 : Int32)))]) hb ⟨rfl, ⟨rfl, ⟨rfl, trivial⟩⟩⟩
    · rw [if_neg hc2] at h
      refine ev_zff rfl (cn_f hc2) ?_
      refine ev_rn (n := 9) (i2 := 25) (L2 := [some (.ref 0), some (.int v1), some (.int v2)]) (st2 := [.int ((g.1 7 3) ||| ((1 : Int32) <<< (v2 &&& 31))), .ref 0]) (g2 := g) cdE_196 rfl ?_
      obtain ⟨q3, hq3, h⟩ := Option.bind_eq_some_iff.mp h
      refine ev_call rfl cdE_193 rfl rfl rfl (e_Da_holdsBroken ((g.1 7 3) ||| ((1 : Int32) <<< (v2 &&& 31)))  g hq3) ?_
      by_cases hc4 : q3.1 = 0
      · rw [if_pos hc4] at h
        refine ev_zft cdE_196 rfl (cn_t hc4) ?_
        refine ev_rn (n := 2) (i2 := 4) (L2 := [some (.ref 0), some (.int v1), some (.int (v2 + (1 : Int32)))]) (st2 := []) (g2 := q3.2) cdE_196 rfl ?_
        cases h
        exact ev_wk (L := [some (.ref 0), some (.int v1), some (.int (v2 + (1 : Int32)))]) hb ⟨rfl, ⟨rfl, ⟨rfl, trivial⟩⟩⟩
      · rw [if_neg hc4] at h
        refine ev_zff rfl (cn_f hc4) ?_
        refine ev_rn (n := 7) (i2 := 34) (L2 := [some (.ref 0), some (.int (v1 ||| ((1 : Int32) <<< (v2 &&& 31)))), some (.int (v2 + (1 : Int32)))]) (st2 := []) (g2 := q3.2) cdE_196 rfl ?_
        refine ev_rn (n := 1) (i2 := 4) (L2 := [some (.ref 0), some (.int (v1 ||| ((1 : Int32) <<< (v2 &&& 31)))), some (.int (v2 + (1 : Int32)))]) (st2 := []) (g2 := q3.2) cdE_196 rfl ?_
        cases h
        exact ev_wk (L := [some (.ref 0), some (.int (v1 ||| ((1 : Int32) <<< (v2 &&& 31)))), some (.int (v2 + (1 : Int32)))]) hb ⟨rfl, ⟨rfl, ⟨rfl, trivial⟩⟩⟩
def f_Da_spares  (g : M2) : Option (Int32 × M2) := ((lp (fun s => b_Da_spares_4  s.1 s.2.1 s.2.2) 5000 ((0 : Int32), (0 : Int32), g)).bind fun e5 => some (e5.1, e5.2))
theorem e_Da_spares {Lx : Nat}   (g : M2) {b : (Int32 × M2)} (h : f_Da_spares  g = some b) : Ev Lx 196 cd_196 0 [some (.ref 0)] [] g (some (.int b.1), b.2) := by
  unfold f_Da_spares at h
  refine ev_rn (n := 4) (i2 := 4) (L2 := [some (.ref 0), some (.int (0 : Int32)), some (.int (0 : Int32))]) (st2 := []) (g2 := g) cdE_196 rfl ?_
  obtain ⟨e5, he5, h⟩ := Option.bind_eq_some_iff.mp h
  have hX6 : Ev Lx 196 cd_196 35 [none, some (.int e5.1)] [] e5.2 (some (.int b.1), b.2) := by
    refine ev_rn (n := 1) (i2 := 36) (L2 := [none, some (.int e5.1)]) (st2 := [.int e5.1]) (g2 := e5.2) cdE_196 rfl ?_
    cases h
    exact ev_ret rfl rfl
  exact ev_wk (L := [some (.ref 0), some (.int (0 : Int32)), some (.int (0 : Int32))]) (lp_ind (P := (fun (s : (Int32 × Int32 × M2)) => Ev Lx 196 cd_196 4 [some (.ref 0), some (.int s.1), some (.int s.2.1)] [] s.2.2 (some (.int b.1), b.2))) (fun s s2 hs hP => tb_Da_spares_4   s.1 s.2.1 s.2.2 (b := .inl s2) hs hP) (fun s hs => tb_Da_spares_4   s.1 s.2.1 s.2.2 (b := .inr e5) hs hX6) _ _ he5) ⟨rfl, ⟨rfl, ⟨rfl, trivial⟩⟩⟩
def b_Mo_spares_4  (v1 : Int32) (v2 : Int32) (g : M2) : Option ((Int32 × Int32 × M2) ⊕ (Int32 × M2)) := (if (g.1 160 1) ≤ v2 then some (.inr (v1, g)) else ((f_Mo_isBroken v2 g).bind fun q2 => (if q2 = 0 then ((f_Mo_lookNow g).bind fun q4 => ((f_Mo_solvesWith ((1 : Int32) <<< (v2 &&& 31)) q4 g).bind fun q5 => (if (q5.1 157 15) = 0 then some (.inl ((v1 ||| (0 : Int32)), (v2 + (1 : Int32)), q5)) else some (.inl ((v1 ||| ((1 : Int32) <<< (v2 &&& 31))), (v2 + (1 : Int32)), q5))))) else some (.inl (v1, (v2 + (1 : Int32)), g)))))
theorem tb_Mo_spares_4 {Lx : Nat}   (v1 : Int32) (v2 : Int32) (g : M2) {b : (Int32 × Int32 × M2) ⊕ (Int32 × M2)} {o : Option Value × M2} (h : b_Mo_spares_4 v1 v2 g = some b) (hb : Sum.elim (fun s => Ev Lx 197 cd_197 4 [some (.ref 157), some (.int s.1), some (.int s.2.1)] [] s.2.2 o) (fun e => Ev Lx 197 cd_197 35 [none, some (.int e.1)] [] e.2 o) b) : Ev Lx 197 cd_197 4 [some (.ref 157), some (.int v1), some (.int v2)] [] g o := by
  unfold b_Mo_spares_4 at h
  refine ev_rn (n := 4) (i2 := 8) (L2 := [some (.ref 157), some (.int v1), some (.int v2)]) (st2 := [.int (1 : Int32), .ref 160, .int v2]) (g2 := g) cdE_197 rfl ?_
  refine ev_iaload (v := .int (g.1 160 1)) rfl (kd_of (show S0[160]? = some (100, 19, List.replicate 19 none) from rfl)) (by decide) ⟨by decide, by decide⟩ rfl ?_
  by_cases hc1 : (g.1 160 1) ≤ v2
  · rw [if_pos hc1] at h
    refine ev_ift cdE_197 rfl (cn_t hc1) ?_
    cases h
    exact ev_wk (L := [none, some (.int v1)]) hb ⟨rfl, trivial⟩
  · rw [if_neg hc1] at h
    refine ev_iff rfl (cn_f hc1) ?_
    refine ev_rn (n := 2) (i2 := 12) (L2 := [some (.ref 157), some (.int v1), some (.int v2)]) (st2 := [.int v2, .ref 157]) (g2 := g) cdE_197 rfl ?_
    obtain ⟨q2, hq2, h⟩ := Option.bind_eq_some_iff.mp h
    refine ev_call rfl cdE_61 rfl rfl rfl (e_Mo_isBroken v2  g hq2) ?_
    by_cases hc3 : q2 = 0
    · rw [if_pos hc3] at h
      refine ev_zft cdE_197 rfl (cn_t hc3) ?_
      refine ev_rn (n := 5) (i2 := 20) (L2 := [some (.ref 157), some (.int v1), some (.int v2)]) (st2 := [.ref 157, .int ((1 : Int32) <<< (v2 &&& 31)), .ref 157]) (g2 := g) cdE_197 rfl ?_
      obtain ⟨q4, hq4, h⟩ := Option.bind_eq_some_iff.mp h
      refine ev_call rfl cdE_63 rfl rfl rfl (e_Mo_lookNow   g hq4) ?_
      obtain ⟨q5, hq5, h⟩ := Option.bind_eq_some_iff.mp h
      refine ev_call rfl cdE_117 rfl rfl rfl (e_Mo_solvesWith ((1 : Int32) <<< (v2 &&& 31)) q4  g hq5) ?_
      refine ev_rn (n := 3) (i2 := 25) (L2 := [some (.ref 157), some (.int v1), some (.int v2)]) (st2 := [.int (q5.1 157 15), .int v1]) (g2 := q5) cdE_197 rfl ?_
      by_cases hc6 : (q5.1 157 15) = 0
      · rw [if_pos hc6] at h
        refine ev_zft cdE_197 rfl (cn_t hc6) ?_
        refine ev_rn (n := 4) (i2 := 34) (L2 := [some (.ref 157), some (.int (v1 ||| (0 : Int32))), some (.int (v2 + (1 : Int32)))]) (st2 := []) (g2 := q5) cdE_197 rfl ?_
        refine ev_rn (n := 1) (i2 := 4) (L2 := [some (.ref 157), some (.int (v1 ||| (0 : Int32))), some (.int (v2 + (1 : Int32)))]) (st2 := []) (g2 := q5) cdE_197 rfl ?_
        cases h
        exact ev_wk (L := [some (.ref 157), some (.int (v1 ||| (0 : Int32))), some (.int (v2 + (1 : Int32)))]) hb ⟨rfl, ⟨rfl, ⟨rfl, trivial⟩⟩⟩
      · rw [if_neg hc6] at h
        refine ev_zff rfl (cn_f hc6) ?_
        refine ev_rn (n := 7) (i2 := 34) (L2 := [some (.ref 157), some (.int (v1 ||| ((1 : Int32) <<< (v2 &&& 31)))), some (.int (v2 + (1 : Int32)))]) (st2 := []) (g2 := q5) cdE_197 rfl ?_
        refine ev_rn (n := 1) (i2 := 4) (L2 := [some (.ref 157), some (.int (v1 ||| ((1 : Int32) <<< (v2 &&& 31)))), some (.int (v2 + (1 : Int32)))]) (st2 := []) (g2 := q5) cdE_197 rfl ?_
        cases h
        exact ev_wk (L := [some (.ref 157), some (.int (v1 ||| ((1 : Int32) <<< (v2 &&& 31)))), some (.int (v2 + (1 : Int32)))]) hb ⟨rfl, ⟨rfl, ⟨rfl, trivial⟩⟩⟩
    · rw [if_neg hc3] at h
      refine ev_zff rfl (cn_f hc3) ?_
      refine ev_rn (n := 3) (i2 := 4) (L2 := [some (.ref 157), some (.int v1), some (.int (v2 + (1 : Int32)))]) (st2 := []) (g2 := g) cdE_197 rfl ?_
      cases h
      exact ev_wk (L := [some (.ref 157), some (.int v1), some (.int (v2 + (1 : Int32)))]) hb ⟨rfl, ⟨rfl, ⟨rfl, trivial⟩⟩⟩
def f_Mo_spares  (g : M2) : Option (Int32 × M2) := ((lp (fun s => b_Mo_spares_4  s.1 s.2.1 s.2.2) 5000 ((0 : Int32), (0 : Int32), g)).bind fun e7 => some (e7.1, e7.2))
theorem e_Mo_spares {Lx : Nat}   (g : M2) {b : (Int32 × M2)} (h : f_Mo_spares  g = some b) : Ev Lx 197 cd_197 0 [some (.ref 157)] [] g (some (.int b.1), b.2) := by
  unfold f_Mo_spares at h
  refine ev_rn (n := 4) (i2 := 4) (L2 := [some (.ref 157), some (.int (0 : Int32)), some (.int (0 : Int32))]) (st2 := []) (g2 := g) cdE_197 rfl ?_
  obtain ⟨e7, he7, h⟩ := Option.bind_eq_some_iff.mp h
  have hX8 : Ev Lx 197 cd_197 35 [none, some (.int e7.1)] [] e7.2 (some (.int b.1), b.2) := by
    refine ev_rn (n := 1) (i2 := 36) (L2 := [none, some (.int e7.1)]) (st2 := [.int e7.1]) (g2 := e7.2) cdE_197 rfl ?_
    cases h
    exact ev_ret rfl rfl
  exact ev_wk (L := [some (.ref 157), some (.int (0 : Int32)), some (.int (0 : Int32))]) (lp_ind (P := (fun (s : (Int32 × Int32 × M2)) => Ev Lx 197 cd_197 4 [some (.ref 157), some (.int s.1), some (.int s.2.1)] [] s.2.2 (some (.int b.1), b.2))) (fun s s2 hs hP => tb_Mo_spares_4   s.1 s.2.1 s.2.2 (b := .inl s2) hs hP) (fun s hs => tb_Mo_spares_4   s.1 s.2.1 s.2.2 (b := .inr e7) hs hX8) _ _ he7) ⟨rfl, ⟨rfl, ⟨rfl, trivial⟩⟩⟩
def b_Da_leastSet_12 (v1 : Int32) (v2 : Int32) (v3 : Int32) (v4 : Int32) (g : M2) : Option ((Int32 × M2) ⊕ (M2 ⊕ (Int32 × M2))) := (if (31 : Int32) < v4 then some (.inr (.inl g)) else (if (f_In_bitCount v4 g) = v3 then (if (v4 &&& (v2 ^^^ (-1 : Int32))) = 0 then (if v1 = 0 then ((f_Da_holdsBroken ((g.1 7 3) ||| v4) g).bind fun q6 => (if q6.1 = v1 then some (.inr (.inr (v4, q6.2))) else some (.inl ((v4 + (1 : Int32)), q6.2)))) else ((f_Da_holdsBroken ((31 : Int32) &&& (v4 ^^^ (-1 : Int32))) g).bind fun q8 => (if q8.1 = v1 then some (.inr (.inr (v4, q8.2))) else some (.inl ((v4 + (1 : Int32)), q8.2))))) else some (.inl ((v4 + (1 : Int32)), g))) else some (.inl ((v4 + (1 : Int32)), g))))
theorem tb_Da_leastSet_12 {Lx : Nat} (v1 : Int32) (v2 : Int32) (v3 : Int32)  (v4 : Int32) (g : M2) {b : (Int32 × M2) ⊕ (M2 ⊕ (Int32 × M2))} {o : Option Value × M2} (h : b_Da_leastSet_12 v1 v2 v3 v4 g = some b) (hb : Sum.elim (fun s => Ev Lx 198 cd_198 12 [some (.ref 0), some (.int v1), some (.int v2), some (.int v3), some (.int s.1)] [] s.2 o) (Sum.elim (fun e => Ev Lx 198 cd_198 49 [some (.ref 0), some (.int v1), some (.int v2), some (.int v3)] [] e o) (fun r => o = (some (.int r.1), r.2))) b) : Ev Lx 198 cd_198 12 [some (.ref 0), some (.int v1), some (.int v2), some (.int v3), some (.int v4)] [] g o := by
  unfold b_Da_leastSet_12 at h
  refine ev_rn (n := 2) (i2 := 14) (L2 := [some (.ref 0), some (.int v1), some (.int v2), some (.int v3), some (.int v4)]) (st2 := [.int (31 : Int32), .int v4]) (g2 := g) cdE_198 rfl ?_
  by_cases hc2 : (31 : Int32) < v4
  · rw [if_pos hc2] at h
    refine ev_ift cdE_198 rfl (cn_t hc2) ?_
    cases h
    exact ev_wk (L := [some (.ref 0), some (.int v1), some (.int v2), some (.int v3)]) hb ⟨rfl, ⟨rfl, ⟨rfl, ⟨rfl, trivial⟩⟩⟩⟩
  · rw [if_neg hc2] at h
    refine ev_iff rfl (cn_f hc2) ?_
    refine ev_rn (n := 1) (i2 := 16) (L2 := [some (.ref 0), some (.int v1), some (.int v2), some (.int v3), some (.int v4)]) (st2 := [.int v4]) (g2 := g) cdE_198 rfl ?_
    refine ev_call rfl cdE_57 rfl rfl rfl (e_In_bitCount v4  g rfl) ?_
    refine ev_rn (n := 1) (i2 := 18) (L2 := [some (.ref 0), some (.int v1), some (.int v2), some (.int v3), some (.int v4)]) (st2 := [.int v3, .int (f_In_bitCount v4 g)]) (g2 := g) cdE_198 rfl ?_
    by_cases hc3 : (f_In_bitCount v4 g) = v3
    · rw [if_pos hc3] at h
      refine ev_iff rfl (cn_f (fun q => q hc3)) ?_
      refine ev_rn (n := 5) (i2 := 24) (L2 := [some (.ref 0), some (.int v1), some (.int v2), some (.int v3), some (.int v4)]) (st2 := [.int (v4 &&& (v2 ^^^ (-1 : Int32)))]) (g2 := g) cdE_198 rfl ?_
      by_cases hc4 : (v4 &&& (v2 ^^^ (-1 : Int32))) = 0
      · rw [if_pos hc4] at h
        refine ev_zff rfl (cn_f (fun q => q hc4)) ?_
        refine ev_rn (n := 1) (i2 := 26) (L2 := [some (.ref 0), some (.int v1), some (.int v2), some (.int v3), some (.int v4)]) (st2 := [.int v1]) (g2 := g) cdE_198 rfl ?_
        by_cases hc5 : v1 = 0
        · rw [if_pos hc5] at h
          refine ev_zft cdE_198 rfl (cn_t hc5) ?_
          refine ev_rn (n := 9) (i2 := 42) (L2 := [some (.ref 0), some (.int v1), some (.int v2), some (.int v3), some (.int v4), some (.int ((g.1 7 3) ||| v4))]) (st2 := [.int ((g.1 7 3) ||| v4), .ref 0]) (g2 := g) cdE_198 rfl ?_
          obtain ⟨q6, hq6, h⟩ := Option.bind_eq_some_iff.mp h
          refine ev_call rfl cdE_193 rfl rfl rfl (e_Da_holdsBroken ((g.1 7 3) ||| v4)  g hq6) ?_
          refine ev_rn (n := 1) (i2 := 44) (L2 := [some (.ref 0), some (.int v1), some (.int v2), some (.int v3), some (.int v4), some (.int ((g.1 7 3) ||| v4))]) (st2 := [.int v1, .int q6.1]) (g2 := q6.2) cdE_198 rfl ?_
          by_cases hc7 : q6.1 = v1
          · rw [if_pos hc7] at h
            refine ev_iff rfl (cn_f (fun q => q hc7)) ?_
            refine ev_rn (n := 1) (i2 := 46) (L2 := [some (.ref 0), some (.int v1), some (.int v2), some (.int v3), some (.int v4), some (.int ((g.1 7 3) ||| v4))]) (st2 := [.int v4]) (g2 := q6.2) cdE_198 rfl ?_
            cases h
            cases hb
            exact ev_ret rfl rfl
          · rw [if_neg hc7] at h
            refine ev_ift cdE_198 rfl (cn_t hc7) ?_
            refine ev_rn (n := 2) (i2 := 12) (L2 := [some (.ref 0), some (.int v1), some (.int v2), some (.int v3), some (.int (v4 + (1 : Int32))), some (.int ((g.1 7 3) ||| v4))]) (st2 := []) (g2 := q6.2) cdE_198 rfl ?_
            cases h
            exact ev_wk (L := [some (.ref 0), some (.int v1), some (.int v2), some (.int v3), some (.int (v4 + (1 : Int32)))]) hb ⟨rfl, ⟨rfl, ⟨rfl, ⟨rfl, ⟨rfl, trivial⟩⟩⟩⟩⟩
        · rw [if_neg hc5] at h
          refine ev_zff rfl (cn_f hc5) ?_
          refine ev_rn (n := 9) (i2 := 42) (L2 := [some (.ref 0), some (.int v1), some (.int v2), some (.int v3), some (.int v4), some (.int ((31 : Int32) &&& (v4 ^^^ (-1 : Int32))))]) (st2 := [.int ((31 : Int32) &&& (v4 ^^^ (-1 : Int32))), .ref 0]) (g2 := g) cdE_198 rfl ?_
          obtain ⟨q8, hq8, h⟩ := Option.bind_eq_some_iff.mp h
          refine ev_call rfl cdE_193 rfl rfl rfl (e_Da_holdsBroken ((31 : Int32) &&& (v4 ^^^ (-1 : Int32)))  g hq8) ?_
          refine ev_rn (n := 1) (i2 := 44) (L2 := [some (.ref 0), some (.int v1), some (.int v2), some (.int v3), some (.int v4), some (.int ((31 : Int32) &&& (v4 ^^^ (-1 : Int32))))]) (st2 := [.int v1, .int q8.1]) (g2 := q8.2) cdE_198 rfl ?_
          by_cases hc9 : q8.1 = v1
          · rw [if_pos hc9] at h
            refine ev_iff rfl (cn_f (fun q => q hc9)) ?_
            refine ev_rn (n := 1) (i2 := 46) (L2 := [some (.ref 0), some (.int v1), some (.int v2), some (.int v3), some (.int v4), some (.int ((31 : Int32) &&& (v4 ^^^ (-1 : Int32))))]) (st2 := [.int v4]) (g2 := q8.2) cdE_198 rfl ?_
            cases h
            cases hb
            exact ev_ret rfl rfl
          · rw [if_neg hc9] at h
            refine ev_ift cdE_198 rfl (cn_t hc9) ?_
            refine ev_rn (n := 2) (i2 := 12) (L2 := [some (.ref 0), some (.int v1), some (.int v2), some (.int v3), some (.int (v4 + (1 : Int32))), some (.int ((31 : Int32) &&& (v4 ^^^ (-1 : Int32))))]) (st2 := []) (g2 := q8.2) cdE_198 rfl ?_
            cases h
            exact ev_wk (L := [some (.ref 0), some (.int v1), some (.int v2), some (.int v3), some (.int (v4 + (1 : Int32)))]) hb ⟨rfl, ⟨rfl, ⟨rfl, ⟨rfl, ⟨rfl, trivial⟩⟩⟩⟩⟩
      · rw [if_neg hc4] at h
        refine ev_zft cdE_198 rfl (cn_t hc4) ?_
        refine ev_rn (n := 2) (i2 := 12) (L2 := [some (.ref 0), some (.int v1), some (.int v2), some (.int v3), some (.int (v4 + (1 : Int32)))]) (st2 := []) (g2 := g) cdE_198 rfl ?_
        cases h
        exact ev_wk (L := [some (.ref 0), some (.int v1), some (.int v2), some (.int v3), some (.int (v4 + (1 : Int32)))]) hb ⟨rfl, ⟨rfl, ⟨rfl, ⟨rfl, ⟨rfl, trivial⟩⟩⟩⟩⟩
    · rw [if_neg hc3] at h
      refine ev_ift cdE_198 rfl (cn_t hc3) ?_
      refine ev_rn (n := 2) (i2 := 12) (L2 := [some (.ref 0), some (.int v1), some (.int v2), some (.int v3), some (.int (v4 + (1 : Int32)))]) (st2 := []) (g2 := g) cdE_198 rfl ?_
      cases h
      exact ev_wk (L := [some (.ref 0), some (.int v1), some (.int v2), some (.int v3), some (.int (v4 + (1 : Int32)))]) hb ⟨rfl, ⟨rfl, ⟨rfl, ⟨rfl, ⟨rfl, trivial⟩⟩⟩⟩⟩
def b_Da_leastSet_7 (v1 : Int32) (v2 : Int32) (v3 : Int32) (g : M2) : Option ((Int32 × M2) ⊕ (M2 ⊕ (Int32 × M2))) := (if (5 : Int32) < v3 then some (.inr (.inl g)) else ((lp (fun s => b_Da_leastSet_12 v1 v2 v3 s.1 s.2) 5000 ((0 : Int32), g)).bind fun ue10 => Sum.elim (fun e10 => some (.inl ((v3 + (1 : Int32)), e10))) (fun re10 => some (.inr (.inr re10))) ue10))
theorem tb_Da_leastSet_7 {Lx : Nat} (v1 : Int32) (v2 : Int32)  (v3 : Int32) (g : M2) {b : (Int32 × M2) ⊕ (M2 ⊕ (Int32 × M2))} {o : Option Value × M2} (h : b_Da_leastSet_7 v1 v2 v3 g = some b) (hb : Sum.elim (fun s => Ev Lx 198 cd_198 7 [some (.ref 0), some (.int v1), some (.int v2), some (.int s.1)] [] s.2 o) (Sum.elim (fun e => Ev Lx 198 cd_198 51 [] [] e o) (fun r => o = (some (.int r.1), r.2))) b) : Ev Lx 198 cd_198 7 [some (.ref 0), some (.int v1), some (.int v2), some (.int v3)] [] g o := by
  unfold b_Da_leastSet_7 at h
  refine ev_rn (n := 2) (i2 := 9) (L2 := [some (.ref 0), some (.int v1), some (.int v2), some (.int v3)]) (st2 := [.int (5 : Int32), .int v3]) (g2 := g) cdE_198 rfl ?_
  by_cases hc1 : (5 : Int32) < v3
  · rw [if_pos hc1] at h
    refine ev_ift cdE_198 rfl (cn_t hc1) ?_
    cases h
    exact ev_wk (L := []) hb trivial
  · rw [if_neg hc1] at h
    refine ev_iff rfl (cn_f hc1) ?_
    refine ev_rn (n := 2) (i2 := 12) (L2 := [some (.ref 0), some (.int v1), some (.int v2), some (.int v3), some (.int (0 : Int32))]) (st2 := []) (g2 := g) cdE_198 rfl ?_
    obtain ⟨ue10, he10, h⟩ := Option.bind_eq_some_iff.mp h
    cases ue10 with
    | inl e10 =>
      replace h := h
      have hX11 : Ev Lx 198 cd_198 49 [some (.ref 0), some (.int v1), some (.int v2), some (.int v3)] [] e10 o := by
        simp only [Sum.elim_inl] at h
        refine ev_rn (n := 2) (i2 := 7) (L2 := [some (.ref 0), some (.int v1), some (.int v2), some (.int (v3 + (1 : Int32)))]) (st2 := []) (g2 := e10) cdE_198 rfl ?_
        cases h
        exact ev_wk (L := [some (.ref 0), some (.int v1), some (.int v2), some (.int (v3 + (1 : Int32)))]) hb ⟨rfl, ⟨rfl, ⟨rfl, ⟨rfl, trivial⟩⟩⟩⟩
      exact ev_wk (L := [some (.ref 0), some (.int v1), some (.int v2), some (.int v3), some (.int (0 : Int32))]) (lp_ind (P := (fun (s : (Int32 × M2)) => Ev Lx 198 cd_198 12 [some (.ref 0), some (.int v1), some (.int v2), some (.int v3), some (.int s.1)] [] s.2 o)) (fun s s2 hs hP => tb_Da_leastSet_12 v1 v2 v3  s.1 s.2 (b := .inl s2) hs hP) (fun s hs => tb_Da_leastSet_12 v1 v2 v3  s.1 s.2 (b := .inr (.inl e10)) hs hX11) _ _ he10) ⟨rfl, ⟨rfl, ⟨rfl, ⟨rfl, ⟨rfl, trivial⟩⟩⟩⟩⟩
    | inr re10 =>
      simp only [Sum.elim_inr] at h
      cases h
      cases hb
      exact ev_wk (L := [some (.ref 0), some (.int v1), some (.int v2), some (.int v3), some (.int (0 : Int32))]) (lp_ind (P := (fun (s : (Int32 × M2)) => Ev Lx 198 cd_198 12 [some (.ref 0), some (.int v1), some (.int v2), some (.int v3), some (.int s.1)] [] s.2 (some (.int re10.1), re10.2))) (fun s s2 hs hP => tb_Da_leastSet_12 v1 v2 v3  s.1 s.2 (b := .inl s2) hs hP) (fun s hs => tb_Da_leastSet_12 v1 v2 v3  s.1 s.2 (b := .inr (.inr re10)) hs rfl) _ _ he10) ⟨rfl, ⟨rfl, ⟨rfl, ⟨rfl, ⟨rfl, trivial⟩⟩⟩⟩⟩
def f_Da_leastSet (p0 : Int32) (g : M2) : Option (Int32 × M2) := ((lp (fun s => b_Da_leastSet_7 p0 (f_Pl_workingBits 7 g) s.1 s.2) 5000 ((0 : Int32), g)).bind fun ue12 => Sum.elim (fun e12 => some ((-1 : Int32), e12)) (fun re12 => some re12) ue12)
theorem e_Da_leastSet {Lx : Nat} (p0 : Int32)  (g : M2) {b : (Int32 × M2)} (h : f_Da_leastSet p0 g = some b) : Ev Lx 198 cd_198 0 [some (.ref 0), some (.int p0)] [] g (some (.int b.1), b.2) := by
  unfold f_Da_leastSet at h
  refine ev_rn (n := 3) (i2 := 3) (L2 := [some (.ref 0), some (.int p0)]) (st2 := [.ref 7]) (g2 := g) cdE_198 rfl ?_
  refine ev_call rfl cdE_56 rfl rfl rfl (e_Pl_workingBits 7 (by decide) g rfl) ?_
  refine ev_rn (n := 3) (i2 := 7) (L2 := [some (.ref 0), some (.int p0), some (.int (f_Pl_workingBits 7 g)), some (.int (0 : Int32))]) (st2 := []) (g2 := g) cdE_198 rfl ?_
  obtain ⟨ue12, he12, h⟩ := Option.bind_eq_some_iff.mp h
  cases ue12 with
  | inl e12 =>
    replace h := h
    have hX13 : Ev Lx 198 cd_198 51 [] [] e12 (some (.int b.1), b.2) := by
      simp only [Sum.elim_inl] at h
      refine ev_rn (n := 1) (i2 := 52) (L2 := []) (st2 := [.int (-1 : Int32)]) (g2 := e12) cdE_198 rfl ?_
      cases h
      exact ev_ret rfl rfl
    exact ev_wk (L := [some (.ref 0), some (.int p0), some (.int (f_Pl_workingBits 7 g)), some (.int (0 : Int32))]) (lp_ind (P := (fun (s : (Int32 × M2)) => Ev Lx 198 cd_198 7 [some (.ref 0), some (.int p0), some (.int (f_Pl_workingBits 7 g)), some (.int s.1)] [] s.2 (some (.int b.1), b.2))) (fun s s2 hs hP => tb_Da_leastSet_7 p0 (f_Pl_workingBits 7 g)  s.1 s.2 (b := .inl s2) hs hP) (fun s hs => tb_Da_leastSet_7 p0 (f_Pl_workingBits 7 g)  s.1 s.2 (b := .inr (.inl e12)) hs hX13) _ _ he12) ⟨rfl, ⟨rfl, ⟨rfl, ⟨rfl, trivial⟩⟩⟩⟩
  | inr re12 =>
    simp only [Sum.elim_inr] at h
    cases h
    exact ev_wk (L := [some (.ref 0), some (.int p0), some (.int (f_Pl_workingBits 7 g)), some (.int (0 : Int32))]) (lp_ind (P := (fun (s : (Int32 × M2)) => Ev Lx 198 cd_198 7 [some (.ref 0), some (.int p0), some (.int (f_Pl_workingBits 7 g)), some (.int s.1)] [] s.2 (some (.int b.1), b.2))) (fun s s2 hs hP => tb_Da_leastSet_7 p0 (f_Pl_workingBits 7 g)  s.1 s.2 (b := .inl s2) hs hP) (fun s hs => tb_Da_leastSet_7 p0 (f_Pl_workingBits 7 g)  s.1 s.2 (b := .inr (.inr b)) hs rfl) _ _ he12) ⟨rfl, ⟨rfl, ⟨rfl, ⟨rfl, trivial⟩⟩⟩⟩
def f_Da_frail (p0 : Int32) (g : M2) : Option (Int32 × M2) := (if (f_Da_isAmong p0 (2 : Int32) g) = 0 then some ((-2 : Int32), g) else ((f_Da_leastSet (0 : Int32) g).bind fun q2 => (if p0 = 0 then some ((f_In_bitCount q2.1 q2.2), q2.2) else some (q2.1, q2.2))))
theorem e_Da_frail {Lx : Nat} (p0 : Int32)  (g : M2) {b : (Int32 × M2)} (h : f_Da_frail p0 g = some b) : Ev Lx 199 cd_199 0 [some (.ref 0), some (.int p0)] [] g (some (.int b.1), b.2) := by
  unfold f_Da_frail at h
  refine ev_rn (n := 2) (i2 := 2) (L2 := [some (.ref 0), some (.int p0)]) (st2 := [.int (2 : Int32), .int p0]) (g2 := g) cdE_199 rfl ?_
  refine ev_call rfl cdE_65 rfl rfl rfl (e_Da_isAmong p0 (2 : Int32)  g rfl) ?_
  by_cases hc1 : (f_Da_isAmong p0 (2 : Int32) g) = 0
  · rw [if_pos hc1] at h
    refine ev_zff rfl (cn_f (fun q => q hc1)) ?_
    refine ev_rn (n := 1) (i2 := 5) (L2 := [some (.ref 0), some (.int p0)]) (st2 := [.int (-2 : Int32)]) (g2 := g) cdE_199 rfl ?_
    cases h
    exact ev_ret rfl rfl
  · rw [if_neg hc1] at h
    refine ev_zft cdE_199 rfl (cn_t hc1) ?_
    refine ev_rn (n := 2) (i2 := 8) (L2 := [some (.ref 0), some (.int p0)]) (st2 := [.int (0 : Int32), .ref 0]) (g2 := g) cdE_199 rfl ?_
    obtain ⟨q2, hq2, h⟩ := Option.bind_eq_some_iff.mp h
    refine ev_call rfl cdE_198 rfl rfl rfl (e_Da_leastSet (0 : Int32)  g hq2) ?_
    refine ev_rn (n := 2) (i2 := 11) (L2 := [some (.ref 0), some (.int p0), some (.int q2.1)]) (st2 := [.int p0]) (g2 := q2.2) cdE_199 rfl ?_
    by_cases hc3 : p0 = 0
    · rw [if_pos hc3] at h
      refine ev_zff rfl (cn_f (fun q => q hc3)) ?_
      refine ev_rn (n := 1) (i2 := 13) (L2 := [some (.ref 0), some (.int p0), some (.int q2.1)]) (st2 := [.int q2.1]) (g2 := q2.2) cdE_199 rfl ?_
      refine ev_call rfl cdE_57 rfl rfl rfl (e_In_bitCount q2.1  q2.2 rfl) ?_
      refine ev_rn (n := 1) (i2 := 16) (L2 := [some (.ref 0), some (.int p0), some (.int q2.1)]) (st2 := [.int (f_In_bitCount q2.1 q2.2)]) (g2 := q2.2) cdE_199 rfl ?_
      cases h
      exact ev_ret rfl rfl
    · rw [if_neg hc3] at h
      refine ev_zft cdE_199 rfl (cn_t hc3) ?_
      refine ev_rn (n := 1) (i2 := 16) (L2 := [some (.ref 0), some (.int p0), some (.int q2.1)]) (st2 := [.int q2.1]) (g2 := q2.2) cdE_199 rfl ?_
      cases h
      exact ev_ret rfl rfl
def b_Mo_frailSet_26 (v1 : Int32) (v2 : Int32) (v3 : Int32) (v4 : Int32) (g : M2) : Option ((Int32 × Int32) ⊕ Int32) := (if (g.1 160 1) ≤ v4 then some (.inr v3) else (if v3 = 0 then some (.inl ((0 : Int32), (v4 + (1 : Int32)))) else ((f_Mo_isBroken v4 g).bind fun q5 => (if q5 = 0 then some (.inl ((1 : Int32), (v4 + (1 : Int32)))) else (if ((v2 >>> (v4 &&& 31)) &&& (1 : Int32)) = (1 : Int32) then some (.inl ((0 : Int32), (v4 + (1 : Int32)))) else some (.inl ((1 : Int32), (v4 + (1 : Int32)))))))))
theorem tb_Mo_frailSet_26 {Lx : Nat} (v1 : Int32) (v2 : Int32)  (v3 : Int32) (v4 : Int32) (g : M2) {b : (Int32 × Int32) ⊕ Int32} {o : Option Value × M2} (h : b_Mo_frailSet_26 v1 v2 v3 v4 g = some b) (hb : Sum.elim (fun s => Ev Lx 200 cd_200 26 [some (.ref 157), some (.int v1), some (.int v2), some (.int s.1), some (.int s.2)] [] g o) (fun e => Ev Lx 200 cd_200 51 [some (.ref 157), some (.int v1), some (.int v2), some (.int e)] [] g o) b) : Ev Lx 200 cd_200 26 [some (.ref 157), some (.int v1), some (.int v2), some (.int v3), some (.int v4)] [] g o := by
  unfold b_Mo_frailSet_26 at h
  refine ev_rn (n := 4) (i2 := 30) (L2 := [some (.ref 157), some (.int v1), some (.int v2), some (.int v3), some (.int v4)]) (st2 := [.int (1 : Int32), .ref 160, .int v4]) (g2 := g) cdE_200 rfl ?_
  refine ev_iaload (v := .int (g.1 160 1)) rfl (kd_of (show S0[160]? = some (100, 19, List.replicate 19 none) from rfl)) (by decide) ⟨by decide, by decide⟩ rfl ?_
  by_cases hc3 : (g.1 160 1) ≤ v4
  · rw [if_pos hc3] at h
    refine ev_ift cdE_200 rfl (cn_t hc3) ?_
    cases h
    exact ev_wk (L := [some (.ref 157), some (.int v1), some (.int v2), some (.int v3)]) hb ⟨rfl, ⟨rfl, ⟨rfl, ⟨rfl, trivial⟩⟩⟩⟩
  · rw [if_neg hc3] at h
    refine ev_iff rfl (cn_f hc3) ?_
    refine ev_rn (n := 1) (i2 := 33) (L2 := [some (.ref 157), some (.int v1), some (.int v2), some (.int v3), some (.int v4)]) (st2 := [.int v3]) (g2 := g) cdE_200 rfl ?_
    by_cases hc4 : v3 = 0
    · rw [if_pos hc4] at h
      refine ev_zft cdE_200 rfl (cn_t hc4) ?_
      refine ev_rn (n := 3) (i2 := 50) (L2 := [some (.ref 157), some (.int v1), some (.int v2), some (.int (0 : Int32)), some (.int (v4 + (1 : Int32)))]) (st2 := []) (g2 := g) cdE_200 rfl ?_
      refine ev_rn (n := 1) (i2 := 26) (L2 := [some (.ref 157), some (.int v1), some (.int v2), some (.int (0 : Int32)), some (.int (v4 + (1 : Int32)))]) (st2 := []) (g2 := g) cdE_200 rfl ?_
      cases h
      exact ev_wk (L := [some (.ref 157), some (.int v1), some (.int v2), some (.int (0 : Int32)), some (.int (v4 + (1 : Int32)))]) hb ⟨rfl, ⟨rfl, ⟨rfl, ⟨rfl, ⟨rfl, trivial⟩⟩⟩⟩⟩
    · rw [if_neg hc4] at h
      refine ev_zff rfl (cn_f hc4) ?_
      refine ev_rn (n := 2) (i2 := 36) (L2 := [some (.ref 157), some (.int v1), some (.int v2), some (.int v3), some (.int v4)]) (st2 := [.int v4, .ref 157]) (g2 := g) cdE_200 rfl ?_
      obtain ⟨q5, hq5, h⟩ := Option.bind_eq_some_iff.mp h
      refine ev_call rfl cdE_61 rfl rfl rfl (e_Mo_isBroken v4  g hq5) ?_
      by_cases hc6 : q5 = 0
      · rw [if_pos hc6] at h
        refine ev_zft cdE_200 rfl (cn_t hc6) ?_
        refine ev_rn (n := 4) (i2 := 50) (L2 := [some (.ref 157), some (.int v1), some (.int v2), some (.int (1 : Int32)), some (.int (v4 + (1 : Int32)))]) (st2 := []) (g2 := g) cdE_200 rfl ?_
        refine ev_rn (n := 1) (i2 := 26) (L2 := [some (.ref 157), some (.int v1), some (.int v2), some (.int (1 : Int32)), some (.int (v4 + (1 : Int32)))]) (st2 := []) (g2 := g) cdE_200 rfl ?_
        cases h
        exact ev_wk (L := [some (.ref 157), some (.int v1), some (.int v2), some (.int (1 : Int32)), some (.int (v4 + (1 : Int32)))]) hb ⟨rfl, ⟨rfl, ⟨rfl, ⟨rfl, ⟨rfl, trivial⟩⟩⟩⟩⟩
      · rw [if_neg hc6] at h
        refine ev_zff rfl (cn_f hc6) ?_
        refine ev_rn (n := 6) (i2 := 44) (L2 := [some (.ref 157), some (.int v1), some (.int v2), some (.int v3), some (.int v4)]) (st2 := [.int (1 : Int32), .int ((v2 >>> (v4 &&& 31)) &&& (1 : Int32))]) (g2 := g) cdE_200 rfl ?_
        by_cases hc7 : ((v2 >>> (v4 &&& 31)) &&& (1 : Int32)) = (1 : Int32)
        · rw [if_pos hc7] at h
          refine ev_ift cdE_200 rfl (cn_t hc7) ?_
          refine ev_rn (n := 3) (i2 := 50) (L2 := [some (.ref 157), some (.int v1), some (.int v2), some (.int (0 : Int32)), some (.int (v4 + (1 : Int32)))]) (st2 := []) (g2 := g) cdE_200 rfl ?_
          refine ev_rn (n := 1) (i2 := 26) (L2 := [some (.ref 157), some (.int v1), some (.int v2), some (.int (0 : Int32)), some (.int (v4 + (1 : Int32)))]) (st2 := []) (g2 := g) cdE_200 rfl ?_
          cases h
          exact ev_wk (L := [some (.ref 157), some (.int v1), some (.int v2), some (.int (0 : Int32)), some (.int (v4 + (1 : Int32)))]) hb ⟨rfl, ⟨rfl, ⟨rfl, ⟨rfl, ⟨rfl, trivial⟩⟩⟩⟩⟩
        · rw [if_neg hc7] at h
          refine ev_iff rfl (cn_f hc7) ?_
          refine ev_rn (n := 4) (i2 := 50) (L2 := [some (.ref 157), some (.int v1), some (.int v2), some (.int (1 : Int32)), some (.int (v4 + (1 : Int32)))]) (st2 := []) (g2 := g) cdE_200 rfl ?_
          refine ev_rn (n := 1) (i2 := 26) (L2 := [some (.ref 157), some (.int v1), some (.int v2), some (.int (1 : Int32)), some (.int (v4 + (1 : Int32)))]) (st2 := []) (g2 := g) cdE_200 rfl ?_
          cases h
          exact ev_wk (L := [some (.ref 157), some (.int v1), some (.int v2), some (.int (1 : Int32)), some (.int (v4 + (1 : Int32)))]) hb ⟨rfl, ⟨rfl, ⟨rfl, ⟨rfl, ⟨rfl, trivial⟩⟩⟩⟩⟩
def j_Mo_frailSet_24 (v1 : Int32) (v2 : Int32) (v3 : Int32) (g : M2) : Option ((Int32 × Int32 × M2) ⊕ (Int32 × M2)) := ((lp (fun s => b_Mo_frailSet_26 v1 v2 s.1 s.2 g) 5000 (v3, (0 : Int32))).bind fun e8 => (if e8 = 0 then some (.inl (v1, (v2 + (1 : Int32)), g)) else ((f_Mo_lookNow g).bind fun q10 => ((f_Mo_solvesWith v2 q10 g).bind fun q11 => (if (q11.1 157 15) = 0 then some (.inl (v2, (v2 + (1 : Int32)), q11)) else some (.inl (v1, (v2 + (1 : Int32)), q11)))))))
theorem tj_Mo_frailSet_24 {Lx : Nat}  (v1 : Int32) (v2 : Int32) (v3 : Int32)  (g : M2) {b : (Int32 × Int32 × M2) ⊕ (Int32 × M2)} {o : Option Value × M2} (h : j_Mo_frailSet_24 v1 v2 v3 g = some b) (hb : Sum.elim (fun s => Ev Lx 200 cd_200 4 [some (.ref 157), some (.int s.1), some (.int s.2.1)] [] s.2.2 o) (fun e => Ev Lx 200 cd_200 68 [none, some (.int e.1)] [] e.2 o) b) : Ev Lx 200 cd_200 24 [some (.ref 157), some (.int v1), some (.int v2), some (.int v3)] [] g o := by
  unfold j_Mo_frailSet_24 at h
  refine ev_rn (n := 2) (i2 := 26) (L2 := [some (.ref 157), some (.int v1), some (.int v2), some (.int v3), some (.int (0 : Int32))]) (st2 := []) (g2 := g) cdE_200 rfl ?_
  obtain ⟨e8, he8, h⟩ := Option.bind_eq_some_iff.mp h
  have hX13 : Ev Lx 200 cd_200 51 [some (.ref 157), some (.int v1), some (.int v2), some (.int e8)] [] g o := by
    refine ev_rn (n := 1) (i2 := 52) (L2 := [some (.ref 157), some (.int v1), some (.int v2), some (.int e8)]) (st2 := [.int e8]) (g2 := g) cdE_200 rfl ?_
    by_cases hc9 : e8 = 0
    · rw [if_pos hc9] at h
      refine ev_zff rfl (cn_f (fun q => q hc9)) ?_
      refine ev_rn (n := 3) (i2 := 4) (L2 := [some (.ref 157), some (.int v1), some (.int (v2 + (1 : Int32))), some (.int e8)]) (st2 := []) (g2 := g) cdE_200 rfl ?_
      cases h
      exact ev_wk (L := [some (.ref 157), some (.int v1), some (.int (v2 + (1 : Int32)))]) hb ⟨rfl, ⟨rfl, ⟨rfl, trivial⟩⟩⟩
    · rw [if_neg hc9] at h
      refine ev_zft cdE_200 rfl (cn_t hc9) ?_
      refine ev_rn (n := 3) (i2 := 57) (L2 := [some (.ref 157), some (.int v1), some (.int v2), some (.int e8)]) (st2 := [.ref 157, .int v2, .ref 157]) (g2 := g) cdE_200 rfl ?_
      obtain ⟨q10, hq10, h⟩ := Option.bind_eq_some_iff.mp h
      refine ev_call rfl cdE_63 rfl rfl rfl (e_Mo_lookNow   g hq10) ?_
      obtain ⟨q11, hq11, h⟩ := Option.bind_eq_some_iff.mp h
      refine ev_call rfl cdE_117 rfl rfl rfl (e_Mo_solvesWith v2 q10  g hq11) ?_
      refine ev_rn (n := 2) (i2 := 61) (L2 := [some (.ref 157), some (.int v1), some (.int v2), some (.int e8)]) (st2 := [.int (q11.1 157 15)]) (g2 := q11) cdE_200 rfl ?_
      by_cases hc12 : (q11.1 157 15) = 0
      · rw [if_pos hc12] at h
        refine ev_zft cdE_200 rfl (cn_t hc12) ?_
        refine ev_rn (n := 3) (i2 := 67) (L2 := [some (.ref 157), some (.int v2), some (.int (v2 + (1 : Int32))), some (.int e8)]) (st2 := []) (g2 := q11) cdE_200 rfl ?_
        refine ev_rn (n := 1) (i2 := 4) (L2 := [some (.ref 157), some (.int v2), some (.int (v2 + (1 : Int32))), some (.int e8)]) (st2 := []) (g2 := q11) cdE_200 rfl ?_
        cases h
        exact ev_wk (L := [some (.ref 157), some (.int v2), some (.int (v2 + (1 : Int32)))]) hb ⟨rfl, ⟨rfl, ⟨rfl, trivial⟩⟩⟩
      · rw [if_neg hc12] at h
        refine ev_zff rfl (cn_f hc12) ?_
        refine ev_rn (n := 4) (i2 := 67) (L2 := [some (.ref 157), some (.int v1), some (.int (v2 + (1 : Int32))), some (.int e8)]) (st2 := []) (g2 := q11) cdE_200 rfl ?_
        refine ev_rn (n := 1) (i2 := 4) (L2 := [some (.ref 157), some (.int v1), some (.int (v2 + (1 : Int32))), some (.int e8)]) (st2 := []) (g2 := q11) cdE_200 rfl ?_
        cases h
        exact ev_wk (L := [some (.ref 157), some (.int v1), some (.int (v2 + (1 : Int32)))]) hb ⟨rfl, ⟨rfl, ⟨rfl, trivial⟩⟩⟩
  exact ev_wk (L := [some (.ref 157), some (.int v1), some (.int v2), some (.int v3), some (.int (0 : Int32))]) (lp_ind (P := (fun (s : (Int32 × Int32)) => Ev Lx 200 cd_200 26 [some (.ref 157), some (.int v1), some (.int v2), some (.int s.1), some (.int s.2)] [] g o)) (fun s s2 hs hP => tb_Mo_frailSet_26 v1 v2  s.1 s.2 g (b := .inl s2) hs hP) (fun s hs => tb_Mo_frailSet_26 v1 v2  s.1 s.2 g (b := .inr e8) hs hX13) _ _ he8) ⟨rfl, ⟨rfl, ⟨rfl, ⟨rfl, ⟨rfl, trivial⟩⟩⟩⟩⟩
def j_Mo_frailSet_20 (v1 : Int32) (v2 : Int32) (g : M2) : Option ((Int32 × Int32 × M2) ⊕ (Int32 × M2)) := (j_Mo_frailSet_24 v1 v2 (1 : Int32) g)
theorem tj_Mo_frailSet_20 {Lx : Nat}  (v1 : Int32) (v2 : Int32)  (g : M2) {b : (Int32 × Int32 × M2) ⊕ (Int32 × M2)} {o : Option Value × M2} (h : j_Mo_frailSet_20 v1 v2 g = some b) (hb : Sum.elim (fun s => Ev Lx 200 cd_200 4 [some (.ref 157), some (.int s.1), some (.int s.2.1)] [] s.2.2 o) (fun e => Ev Lx 200 cd_200 68 [none, some (.int e.1)] [] e.2 o) b) : Ev Lx 200 cd_200 20 [some (.ref 157), some (.int v1), some (.int v2)] [] g o := by
  unfold j_Mo_frailSet_20 at h
  refine ev_rn (n := 3) (i2 := 24) (L2 := [some (.ref 157), some (.int v1), some (.int v2), some (.int (1 : Int32))]) (st2 := []) (g2 := g) cdE_200 rfl ?_
  exact ev_wk (L := [some (.ref 157), some (.int v1), some (.int v2), some (.int (1 : Int32))]) (tj_Mo_frailSet_24  v1 v2 (1 : Int32)  g h hb) ⟨rfl, ⟨rfl, ⟨rfl, ⟨rfl, trivial⟩⟩⟩⟩
def b_Mo_frailSet_4  (v1 : Int32) (v2 : Int32) (g : M2) : Option ((Int32 × Int32 × M2) ⊕ (Int32 × M2)) := (if ((1 : Int32) <<< ((g.1 160 1) &&& 31)) ≤ v2 then some (.inr (v1, g)) else (if v1 = (-1 : Int32) then (j_Mo_frailSet_20 v1 v2 g) else (if (f_In_bitCount v1 g) ≤ (f_In_bitCount v2 g) then (j_Mo_frailSet_24 v1 v2 (0 : Int32) g) else (j_Mo_frailSet_20 v1 v2 g))))
theorem tb_Mo_frailSet_4 {Lx : Nat}   (v1 : Int32) (v2 : Int32) (g : M2) {b : (Int32 × Int32 × M2) ⊕ (Int32 × M2)} {o : Option Value × M2} (h : b_Mo_frailSet_4 v1 v2 g = some b) (hb : Sum.elim (fun s => Ev Lx 200 cd_200 4 [some (.ref 157), some (.int s.1), some (.int s.2.1)] [] s.2.2 o) (fun e => Ev Lx 200 cd_200 68 [none, some (.int e.1)] [] e.2 o) b) : Ev Lx 200 cd_200 4 [some (.ref 157), some (.int v1), some (.int v2)] [] g o := by
  unfold b_Mo_frailSet_4 at h
  refine ev_rn (n := 5) (i2 := 9) (L2 := [some (.ref 157), some (.int v1), some (.int v2)]) (st2 := [.int (1 : Int32), .ref 160, .int (1 : Int32), .int v2]) (g2 := g) cdE_200 rfl ?_
  refine ev_iaload (v := .int (g.1 160 1)) rfl (kd_of (show S0[160]? = some (100, 19, List.replicate 19 none) from rfl)) (by decide) ⟨by decide, by decide⟩ rfl ?_
  refine ev_rn (n := 1) (i2 := 11) (L2 := [some (.ref 157), some (.int v1), some (.int v2)]) (st2 := [.int ((1 : Int32) <<< ((g.1 160 1) &&& 31)), .int v2]) (g2 := g) cdE_200 rfl ?_
  by_cases hc1 : ((1 : Int32) <<< ((g.1 160 1) &&& 31)) ≤ v2
  · rw [if_pos hc1] at h
    refine ev_ift cdE_200 rfl (cn_t hc1) ?_
    cases h
    exact ev_wk (L := [none, some (.int v1)]) hb ⟨rfl, trivial⟩
  · rw [if_neg hc1] at h
    refine ev_iff rfl (cn_f hc1) ?_
    refine ev_rn (n := 2) (i2 := 14) (L2 := [some (.ref 157), some (.int v1), some (.int v2)]) (st2 := [.int (-1 : Int32), .int v1]) (g2 := g) cdE_200 rfl ?_
    by_cases hc2 : v1 = (-1 : Int32)
    · rw [if_pos hc2] at h
      refine ev_ift cdE_200 rfl (cn_t hc2) ?_
      exact ev_wk (L := [some (.ref 157), some (.int v1), some (.int v2)]) (tj_Mo_frailSet_20  v1 v2  g h hb) ⟨rfl, ⟨rfl, ⟨rfl, trivial⟩⟩⟩
    · rw [if_neg hc2] at h
      refine ev_iff rfl (cn_f hc2) ?_
      refine ev_rn (n := 1) (i2 := 16) (L2 := [some (.ref 157), some (.int v1), some (.int v2)]) (st2 := [.int v2]) (g2 := g) cdE_200 rfl ?_
      refine ev_call rfl cdE_57 rfl rfl rfl (e_In_bitCount v2  g rfl) ?_
      refine ev_rn (n := 1) (i2 := 18) (L2 := [some (.ref 157), some (.int v1), some (.int v2)]) (st2 := [.int v1, .int (f_In_bitCount v2 g)]) (g2 := g) cdE_200 rfl ?_
      refine ev_call rfl cdE_57 rfl rfl rfl (e_In_bitCount v1  g rfl) ?_
      by_cases hc14 : (f_In_bitCount v1 g) ≤ (f_In_bitCount v2 g)
      · rw [if_pos hc14] at h
        refine ev_ift cdE_200 rfl (cn_t hc14) ?_
        refine ev_rn (n := 2) (i2 := 24) (L2 := [some (.ref 157), some (.int v1), some (.int v2), some (.int (0 : Int32))]) (st2 := []) (g2 := g) cdE_200 rfl ?_
        exact ev_wk (L := [some (.ref 157), some (.int v1), some (.int v2), some (.int (0 : Int32))]) (tj_Mo_frailSet_24  v1 v2 (0 : Int32)  g h hb) ⟨rfl, ⟨rfl, ⟨rfl, ⟨rfl, trivial⟩⟩⟩⟩
      · rw [if_neg hc14] at h
        refine ev_iff rfl (cn_f hc14) ?_
        exact ev_wk (L := [some (.ref 157), some (.int v1), some (.int v2)]) (tj_Mo_frailSet_20  v1 v2  g h hb) ⟨rfl, ⟨rfl, ⟨rfl, trivial⟩⟩⟩
def f_Mo_frailSet  (g : M2) : Option (Int32 × M2) := ((lp (fun s => b_Mo_frailSet_4  s.1 s.2.1 s.2.2) 5000 ((-1 : Int32), (0 : Int32), g)).bind fun e15 => some (e15.1, e15.2))
theorem e_Mo_frailSet {Lx : Nat}   (g : M2) {b : (Int32 × M2)} (h : f_Mo_frailSet  g = some b) : Ev Lx 200 cd_200 0 [some (.ref 157)] [] g (some (.int b.1), b.2) := by
  unfold f_Mo_frailSet at h
  refine ev_rn (n := 4) (i2 := 4) (L2 := [some (.ref 157), some (.int (-1 : Int32)), some (.int (0 : Int32))]) (st2 := []) (g2 := g) cdE_200 rfl ?_
  obtain ⟨e15, he15, h⟩ := Option.bind_eq_some_iff.mp h
  have hX16 : Ev Lx 200 cd_200 68 [none, some (.int e15.1)] [] e15.2 (some (.int b.1), b.2) := by
    refine ev_rn (n := 1) (i2 := 69) (L2 := [none, some (.int e15.1)]) (st2 := [.int e15.1]) (g2 := e15.2) cdE_200 rfl ?_
    cases h
    exact ev_ret rfl rfl
  exact ev_wk (L := [some (.ref 157), some (.int (-1 : Int32)), some (.int (0 : Int32))]) (lp_ind (P := (fun (s : (Int32 × Int32 × M2)) => Ev Lx 200 cd_200 4 [some (.ref 157), some (.int s.1), some (.int s.2.1)] [] s.2.2 (some (.int b.1), b.2))) (fun s s2 hs hP => tb_Mo_frailSet_4   s.1 s.2.1 s.2.2 (b := .inl s2) hs hP) (fun s hs => tb_Mo_frailSet_4   s.1 s.2.1 s.2.2 (b := .inr e15) hs hX16) _ _ he15) ⟨rfl, ⟨rfl, ⟨rfl, trivial⟩⟩⟩
def f_Mo_frail (p0 : Int32) (g : M2) : Option (Int32 × M2) := (if (f_Mo_in p0.toInt64 (0 : Int64) (1 : Int64) g) = 0 then some ((-2 : Int32), g) else ((f_Mo_frailSet g).bind fun q2 => (if p0 = 0 then some ((f_In_bitCount q2.1 q2.2), q2.2) else some (q2.1, q2.2))))
theorem e_Mo_frail {Lx : Nat} (p0 : Int32)  (g : M2) {b : (Int32 × M2)} (h : f_Mo_frail p0 g = some b) : Ev Lx 201 cd_201 0 [some (.ref 157), some (.int p0)] [] g (some (.int b.1), b.2) := by
  unfold f_Mo_frail at h
  refine ev_rn (n := 4) (i2 := 4) (L2 := [some (.ref 157), some (.int p0)]) (st2 := [.long (1 : Int64), .long (0 : Int64), .long p0.toInt64]) (g2 := g) cdE_201 rfl ?_
  refine ev_call rfl cdE_16 rfl rfl rfl (e_Mo_in p0.toInt64 (0 : Int64) (1 : Int64)  g rfl) ?_
  by_cases hc1 : (f_Mo_in p0.toInt64 (0 : Int64) (1 : Int64) g) = 0
  · rw [if_pos hc1] at h
    refine ev_zff rfl (cn_f (fun q => q hc1)) ?_
    refine ev_rn (n := 1) (i2 := 7) (L2 := [some (.ref 157), some (.int p0)]) (st2 := [.int (-2 : Int32)]) (g2 := g) cdE_201 rfl ?_
    cases h
    exact ev_ret rfl rfl
  · rw [if_neg hc1] at h
    refine ev_zft cdE_201 rfl (cn_t hc1) ?_
    refine ev_rn (n := 1) (i2 := 9) (L2 := [some (.ref 157), some (.int p0)]) (st2 := [.ref 157]) (g2 := g) cdE_201 rfl ?_
    obtain ⟨q2, hq2, h⟩ := Option.bind_eq_some_iff.mp h
    refine ev_call rfl cdE_200 rfl rfl rfl (e_Mo_frailSet   g hq2) ?_
    refine ev_rn (n := 2) (i2 := 12) (L2 := [some (.ref 157), some (.int p0), some (.int q2.1)]) (st2 := [.int p0]) (g2 := q2.2) cdE_201 rfl ?_
    by_cases hc3 : p0 = 0
    · rw [if_pos hc3] at h
      refine ev_zff rfl (cn_f (fun q => q hc3)) ?_
      refine ev_rn (n := 1) (i2 := 14) (L2 := [some (.ref 157), some (.int p0), some (.int q2.1)]) (st2 := [.int q2.1]) (g2 := q2.2) cdE_201 rfl ?_
      refine ev_call rfl cdE_57 rfl rfl rfl (e_In_bitCount q2.1  q2.2 rfl) ?_
      refine ev_rn (n := 1) (i2 := 17) (L2 := [some (.ref 157), some (.int p0), some (.int q2.1)]) (st2 := [.int (f_In_bitCount q2.1 q2.2)]) (g2 := q2.2) cdE_201 rfl ?_
      cases h
      exact ev_ret rfl rfl
    · rw [if_neg hc3] at h
      refine ev_zft cdE_201 rfl (cn_t hc3) ?_
      refine ev_rn (n := 1) (i2 := 17) (L2 := [some (.ref 157), some (.int p0), some (.int q2.1)]) (st2 := [.int q2.1]) (g2 := q2.2) cdE_201 rfl ?_
      cases h
      exact ev_ret rfl rfl
def f_Da_fewest (p0 : Int32) (g : M2) : Option (Int32 × M2) := (if (f_Da_isAmong p0 (2 : Int32) g) = 0 then some ((-2 : Int32), g) else ((f_Da_leastSet (1 : Int32) g).bind fun q2 => (if p0 = (1 : Int32) then some (q2.1, q2.2) else (if q2.1 = (-1 : Int32) then some (q2.1, q2.2) else some ((f_In_bitCount q2.1 q2.2), q2.2)))))
theorem e_Da_fewest {Lx : Nat} (p0 : Int32)  (g : M2) {b : (Int32 × M2)} (h : f_Da_fewest p0 g = some b) : Ev Lx 202 cd_202 0 [some (.ref 0), some (.int p0)] [] g (some (.int b.1), b.2) := by
  unfold f_Da_fewest at h
  refine ev_rn (n := 2) (i2 := 2) (L2 := [some (.ref 0), some (.int p0)]) (st2 := [.int (2 : Int32), .int p0]) (g2 := g) cdE_202 rfl ?_
  refine ev_call rfl cdE_65 rfl rfl rfl (e_Da_isAmong p0 (2 : Int32)  g rfl) ?_
  by_cases hc1 : (f_Da_isAmong p0 (2 : Int32) g) = 0
  · rw [if_pos hc1] at h
    refine ev_zff rfl (cn_f (fun q => q hc1)) ?_
    refine ev_rn (n := 1) (i2 := 5) (L2 := [some (.ref 0), some (.int p0)]) (st2 := [.int (-2 : Int32)]) (g2 := g) cdE_202 rfl ?_
    cases h
    exact ev_ret rfl rfl
  · rw [if_neg hc1] at h
    refine ev_zft cdE_202 rfl (cn_t hc1) ?_
    refine ev_rn (n := 2) (i2 := 8) (L2 := [some (.ref 0), some (.int p0)]) (st2 := [.int (1 : Int32), .ref 0]) (g2 := g) cdE_202 rfl ?_
    obtain ⟨q2, hq2, h⟩ := Option.bind_eq_some_iff.mp h
    refine ev_call rfl cdE_198 rfl rfl rfl (e_Da_leastSet (1 : Int32)  g hq2) ?_
    refine ev_rn (n := 3) (i2 := 12) (L2 := [some (.ref 0), some (.int p0), some (.int q2.1)]) (st2 := [.int (1 : Int32), .int p0]) (g2 := q2.2) cdE_202 rfl ?_
    by_cases hc3 : p0 = (1 : Int32)
    · rw [if_pos hc3] at h
      refine ev_ift cdE_202 rfl (cn_t hc3) ?_
      refine ev_rn (n := 2) (i2 := 20) (L2 := [some (.ref 0), some (.int p0), some (.int q2.1)]) (st2 := [.int q2.1]) (g2 := q2.2) cdE_202 rfl ?_
      cases h
      exact ev_ret rfl rfl
    · rw [if_neg hc3] at h
      refine ev_iff rfl (cn_f hc3) ?_
      refine ev_rn (n := 2) (i2 := 15) (L2 := [some (.ref 0), some (.int p0), some (.int q2.1)]) (st2 := [.int (-1 : Int32), .int q2.1]) (g2 := q2.2) cdE_202 rfl ?_
      by_cases hc4 : q2.1 = (-1 : Int32)
      · rw [if_pos hc4] at h
        refine ev_iff rfl (cn_f (fun q => q hc4)) ?_
        refine ev_rn (n := 2) (i2 := 20) (L2 := [some (.ref 0), some (.int p0), some (.int q2.1)]) (st2 := [.int q2.1]) (g2 := q2.2) cdE_202 rfl ?_
        cases h
        exact ev_ret rfl rfl
      · rw [if_neg hc4] at h
        refine ev_ift cdE_202 rfl (cn_t hc4) ?_
        refine ev_rn (n := 1) (i2 := 19) (L2 := [some (.ref 0), some (.int p0), some (.int q2.1)]) (st2 := [.int q2.1]) (g2 := q2.2) cdE_202 rfl ?_
        refine ev_call rfl cdE_57 rfl rfl rfl (e_In_bitCount q2.1  q2.2 rfl) ?_
        cases h
        exact ev_ret rfl rfl
def b_Mo_fewest_34 (v1 : Int32) (v2 : Int32) (v3 : Int32) (v4 : Int32) (v5 : Int32) (g : M2) : Option ((Int32 × Int32) ⊕ Int32) := (if (g.1 160 1) ≤ v5 then some (.inr v4) else (if v4 = 0 then some (.inl ((0 : Int32), (v5 + (1 : Int32)))) else ((f_Mo_isBroken v5 g).bind fun q6 => (if q6 = 0 then some (.inl ((1 : Int32), (v5 + (1 : Int32)))) else (if ((v3 >>> (v5 &&& 31)) &&& (1 : Int32)) = (1 : Int32) then some (.inl ((0 : Int32), (v5 + (1 : Int32)))) else some (.inl ((1 : Int32), (v5 + (1 : Int32)))))))))
theorem tb_Mo_fewest_34 {Lx : Nat} (v1 : Int32) (v2 : Int32) (v3 : Int32)  (v4 : Int32) (v5 : Int32) (g : M2) {b : (Int32 × Int32) ⊕ Int32} {o : Option Value × M2} (h : b_Mo_fewest_34 v1 v2 v3 v4 v5 g = some b) (hb : Sum.elim (fun s => Ev Lx 203 cd_203 34 [some (.ref 157), some (.int v1), some (.int v2), some (.int v3), some (.int s.1), some (.int s.2)] [] g o) (fun e => Ev Lx 203 cd_203 59 [some (.ref 157), some (.int v1), some (.int v2), some (.int v3), some (.int e)] [] g o) b) : Ev Lx 203 cd_203 34 [some (.ref 157), some (.int v1), some (.int v2), some (.int v3), some (.int v4), some (.int v5)] [] g o := by
  unfold b_Mo_fewest_34 at h
  refine ev_rn (n := 4) (i2 := 38) (L2 := [some (.ref 157), some (.int v1), some (.int v2), some (.int v3), some (.int v4), some (.int v5)]) (st2 := [.int (1 : Int32), .ref 160, .int v5]) (g2 := g) cdE_203 rfl ?_
  refine ev_iaload (v := .int (g.1 160 1)) rfl (kd_of (show S0[160]? = some (100, 19, List.replicate 19 none) from rfl)) (by decide) ⟨by decide, by decide⟩ rfl ?_
  by_cases hc4 : (g.1 160 1) ≤ v5
  · rw [if_pos hc4] at h
    refine ev_ift cdE_203 rfl (cn_t hc4) ?_
    cases h
    exact ev_wk (L := [some (.ref 157), some (.int v1), some (.int v2), some (.int v3), some (.int v4)]) hb ⟨rfl, ⟨rfl, ⟨rfl, ⟨rfl, ⟨rfl, trivial⟩⟩⟩⟩⟩
  · rw [if_neg hc4] at h
    refine ev_iff rfl (cn_f hc4) ?_
    refine ev_rn (n := 1) (i2 := 41) (L2 := [some (.ref 157), some (.int v1), some (.int v2), some (.int v3), some (.int v4), some (.int v5)]) (st2 := [.int v4]) (g2 := g) cdE_203 rfl ?_
    by_cases hc5 : v4 = 0
    · rw [if_pos hc5] at h
      refine ev_zft cdE_203 rfl (cn_t hc5) ?_
      refine ev_rn (n := 3) (i2 := 58) (L2 := [some (.ref 157), some (.int v1), some (.int v2), some (.int v3), some (.int (0 : Int32)), some (.int (v5 + (1 : Int32)))]) (st2 := []) (g2 := g) cdE_203 rfl ?_
      refine ev_rn (n := 1) (i2 := 34) (L2 := [some (.ref 157), some (.int v1), some (.int v2), some (.int v3), some (.int (0 : Int32)), some (.int (v5 + (1 : Int32)))]) (st2 := []) (g2 := g) cdE_203 rfl ?_
      cases h
      exact ev_wk (L := [some (.ref 157), some (.int v1), some (.int v2), some (.int v3), some (.int (0 : Int32)), some (.int (v5 + (1 : Int32)))]) hb ⟨rfl, ⟨rfl, ⟨rfl, ⟨rfl, ⟨rfl, ⟨rfl, trivial⟩⟩⟩⟩⟩⟩
    · rw [if_neg hc5] at h
      refine ev_zff rfl (cn_f hc5) ?_
      refine ev_rn (n := 2) (i2 := 44) (L2 := [some (.ref 157), some (.int v1), some (.int v2), some (.int v3), some (.int v4), some (.int v5)]) (st2 := [.int v5, .ref 157]) (g2 := g) cdE_203 rfl ?_
      obtain ⟨q6, hq6, h⟩ := Option.bind_eq_some_iff.mp h
      refine ev_call rfl cdE_61 rfl rfl rfl (e_Mo_isBroken v5  g hq6) ?_
      by_cases hc7 : q6 = 0
      · rw [if_pos hc7] at h
        refine ev_zft cdE_203 rfl (cn_t hc7) ?_
        refine ev_rn (n := 4) (i2 := 58) (L2 := [some (.ref 157), some (.int v1), some (.int v2), some (.int v3), some (.int (1 : Int32)), some (.int (v5 + (1 : Int32)))]) (st2 := []) (g2 := g) cdE_203 rfl ?_
        refine ev_rn (n := 1) (i2 := 34) (L2 := [some (.ref 157), some (.int v1), some (.int v2), some (.int v3), some (.int (1 : Int32)), some (.int (v5 + (1 : Int32)))]) (st2 := []) (g2 := g) cdE_203 rfl ?_
        cases h
        exact ev_wk (L := [some (.ref 157), some (.int v1), some (.int v2), some (.int v3), some (.int (1 : Int32)), some (.int (v5 + (1 : Int32)))]) hb ⟨rfl, ⟨rfl, ⟨rfl, ⟨rfl, ⟨rfl, ⟨rfl, trivial⟩⟩⟩⟩⟩⟩
      · rw [if_neg hc7] at h
        refine ev_zff rfl (cn_f hc7) ?_
        refine ev_rn (n := 6) (i2 := 52) (L2 := [some (.ref 157), some (.int v1), some (.int v2), some (.int v3), some (.int v4), some (.int v5)]) (st2 := [.int (1 : Int32), .int ((v3 >>> (v5 &&& 31)) &&& (1 : Int32))]) (g2 := g) cdE_203 rfl ?_
        by_cases hc8 : ((v3 >>> (v5 &&& 31)) &&& (1 : Int32)) = (1 : Int32)
        · rw [if_pos hc8] at h
          refine ev_ift cdE_203 rfl (cn_t hc8) ?_
          refine ev_rn (n := 3) (i2 := 58) (L2 := [some (.ref 157), some (.int v1), some (.int v2), some (.int v3), some (.int (0 : Int32)), some (.int (v5 + (1 : Int32)))]) (st2 := []) (g2 := g) cdE_203 rfl ?_
          refine ev_rn (n := 1) (i2 := 34) (L2 := [some (.ref 157), some (.int v1), some (.int v2), some (.int v3), some (.int (0 : Int32)), some (.int (v5 + (1 : Int32)))]) (st2 := []) (g2 := g) cdE_203 rfl ?_
          cases h
          exact ev_wk (L := [some (.ref 157), some (.int v1), some (.int v2), some (.int v3), some (.int (0 : Int32)), some (.int (v5 + (1 : Int32)))]) hb ⟨rfl, ⟨rfl, ⟨rfl, ⟨rfl, ⟨rfl, ⟨rfl, trivial⟩⟩⟩⟩⟩⟩
        · rw [if_neg hc8] at h
          refine ev_iff rfl (cn_f hc8) ?_
          refine ev_rn (n := 4) (i2 := 58) (L2 := [some (.ref 157), some (.int v1), some (.int v2), some (.int v3), some (.int (1 : Int32)), some (.int (v5 + (1 : Int32)))]) (st2 := []) (g2 := g) cdE_203 rfl ?_
          refine ev_rn (n := 1) (i2 := 34) (L2 := [some (.ref 157), some (.int v1), some (.int v2), some (.int v3), some (.int (1 : Int32)), some (.int (v5 + (1 : Int32)))]) (st2 := []) (g2 := g) cdE_203 rfl ?_
          cases h
          exact ev_wk (L := [some (.ref 157), some (.int v1), some (.int v2), some (.int v3), some (.int (1 : Int32)), some (.int (v5 + (1 : Int32)))]) hb ⟨rfl, ⟨rfl, ⟨rfl, ⟨rfl, ⟨rfl, ⟨rfl, trivial⟩⟩⟩⟩⟩⟩
def j_Mo_fewest_32 (v1 : Int32) (v2 : Int32) (v3 : Int32) (v4 : Int32) (g : M2) : Option ((Int32 × Int32 × M2) ⊕ (Int32 × M2)) := ((lp (fun s => b_Mo_fewest_34 v1 v2 v3 s.1 s.2 g) 5000 (v4, (0 : Int32))).bind fun e9 => (if e9 = 0 then some (.inl (v2, (v3 + (1 : Int32)), g)) else ((f_Mo_lookNow g).bind fun q11 => ((f_Mo_solvesWith ((31 : Int32) &&& (v3 ^^^ (-1 : Int32))) q11 g).bind fun q12 => (if (q12.1 157 15) = 0 then some (.inl (v2, (v3 + (1 : Int32)), q12)) else some (.inl (v3, (v3 + (1 : Int32)), q12)))))))
theorem tj_Mo_fewest_32 {Lx : Nat}  (v1 : Int32) (v2 : Int32) (v3 : Int32) (v4 : Int32)  (g : M2) {b : (Int32 × Int32 × M2) ⊕ (Int32 × M2)} {o : Option Value × M2} (h : j_Mo_fewest_32 v1 v2 v3 v4 g = some b) (hb : Sum.elim (fun s => Ev Lx 203 cd_203 12 [some (.ref 157), some (.int v1), some (.int s.1), some (.int s.2.1)] [] s.2.2 o) (fun e => Ev Lx 203 cd_203 80 [none, some (.int v1), some (.int e.1)] [] e.2 o) b) : Ev Lx 203 cd_203 32 [some (.ref 157), some (.int v1), some (.int v2), some (.int v3), some (.int v4)] [] g o := by
  unfold j_Mo_fewest_32 at h
  refine ev_rn (n := 2) (i2 := 34) (L2 := [some (.ref 157), some (.int v1), some (.int v2), some (.int v3), some (.int v4), some (.int (0 : Int32))]) (st2 := []) (g2 := g) cdE_203 rfl ?_
  obtain ⟨e9, he9, h⟩ := Option.bind_eq_some_iff.mp h
  have hX14 : Ev Lx 203 cd_203 59 [some (.ref 157), some (.int v1), some (.int v2), some (.int v3), some (.int e9)] [] g o := by
    refine ev_rn (n := 1) (i2 := 60) (L2 := [some (.ref 157), some (.int v1), some (.int v2), some (.int v3), some (.int e9)]) (st2 := [.int e9]) (g2 := g) cdE_203 rfl ?_
    by_cases hc10 : e9 = 0
    · rw [if_pos hc10] at h
      refine ev_zff rfl (cn_f (fun q => q hc10)) ?_
      refine ev_rn (n := 3) (i2 := 12) (L2 := [some (.ref 157), some (.int v1), some (.int v2), some (.int (v3 + (1 : Int32))), some (.int e9)]) (st2 := []) (g2 := g) cdE_203 rfl ?_
      cases h
      exact ev_wk (L := [some (.ref 157), some (.int v1), some (.int v2), some (.int (v3 + (1 : Int32)))]) hb ⟨rfl, ⟨rfl, ⟨rfl, ⟨rfl, trivial⟩⟩⟩⟩
    · rw [if_neg hc10] at h
      refine ev_zft cdE_203 rfl (cn_t hc10) ?_
      refine ev_rn (n := 7) (i2 := 69) (L2 := [some (.ref 157), some (.int v1), some (.int v2), some (.int v3), some (.int e9)]) (st2 := [.ref 157, .int ((31 : Int32) &&& (v3 ^^^ (-1 : Int32))), .ref 157]) (g2 := g) cdE_203 rfl ?_
      obtain ⟨q11, hq11, h⟩ := Option.bind_eq_some_iff.mp h
      refine ev_call rfl cdE_63 rfl rfl rfl (e_Mo_lookNow   g hq11) ?_
      obtain ⟨q12, hq12, h⟩ := Option.bind_eq_some_iff.mp h
      refine ev_call rfl cdE_117 rfl rfl rfl (e_Mo_solvesWith ((31 : Int32) &&& (v3 ^^^ (-1 : Int32))) q11  g hq12) ?_
      refine ev_rn (n := 2) (i2 := 73) (L2 := [some (.ref 157), some (.int v1), some (.int v2), some (.int v3), some (.int e9)]) (st2 := [.int (q12.1 157 15)]) (g2 := q12) cdE_203 rfl ?_
      by_cases hc13 : (q12.1 157 15) = 0
      · rw [if_pos hc13] at h
        refine ev_zft cdE_203 rfl (cn_t hc13) ?_
        refine ev_rn (n := 3) (i2 := 79) (L2 := [some (.ref 157), some (.int v1), some (.int v2), some (.int (v3 + (1 : Int32))), some (.int e9)]) (st2 := []) (g2 := q12) cdE_203 rfl ?_
        refine ev_rn (n := 1) (i2 := 12) (L2 := [some (.ref 157), some (.int v1), some (.int v2), some (.int (v3 + (1 : Int32))), some (.int e9)]) (st2 := []) (g2 := q12) cdE_203 rfl ?_
        cases h
        exact ev_wk (L := [some (.ref 157), some (.int v1), some (.int v2), some (.int (v3 + (1 : Int32)))]) hb ⟨rfl, ⟨rfl, ⟨rfl, ⟨rfl, trivial⟩⟩⟩⟩
      · rw [if_neg hc13] at h
        refine ev_zff rfl (cn_f hc13) ?_
        refine ev_rn (n := 4) (i2 := 79) (L2 := [some (.ref 157), some (.int v1), some (.int v3), some (.int (v3 + (1 : Int32))), some (.int e9)]) (st2 := []) (g2 := q12) cdE_203 rfl ?_
        refine ev_rn (n := 1) (i2 := 12) (L2 := [some (.ref 157), some (.int v1), some (.int v3), some (.int (v3 + (1 : Int32))), some (.int e9)]) (st2 := []) (g2 := q12) cdE_203 rfl ?_
        cases h
        exact ev_wk (L := [some (.ref 157), some (.int v1), some (.int v3), some (.int (v3 + (1 : Int32)))]) hb ⟨rfl, ⟨rfl, ⟨rfl, ⟨rfl, trivial⟩⟩⟩⟩
  exact ev_wk (L := [some (.ref 157), some (.int v1), some (.int v2), some (.int v3), some (.int v4), some (.int (0 : Int32))]) (lp_ind (P := (fun (s : (Int32 × Int32)) => Ev Lx 203 cd_203 34 [some (.ref 157), some (.int v1), some (.int v2), some (.int v3), some (.int s.1), some (.int s.2)] [] g o)) (fun s s2 hs hP => tb_Mo_fewest_34 v1 v2 v3  s.1 s.2 g (b := .inl s2) hs hP) (fun s hs => tb_Mo_fewest_34 v1 v2 v3  s.1 s.2 g (b := .inr e9) hs hX14) _ _ he9) ⟨rfl, ⟨rfl, ⟨rfl, ⟨rfl, ⟨rfl, ⟨rfl, trivial⟩⟩⟩⟩⟩⟩
def j_Mo_fewest_28 (v1 : Int32) (v2 : Int32) (v3 : Int32) (g : M2) : Option ((Int32 × Int32 × M2) ⊕ (Int32 × M2)) := (j_Mo_fewest_32 v1 v2 v3 (1 : Int32) g)
theorem tj_Mo_fewest_28 {Lx : Nat}  (v1 : Int32) (v2 : Int32) (v3 : Int32)  (g : M2) {b : (Int32 × Int32 × M2) ⊕ (Int32 × M2)} {o : Option Value × M2} (h : j_Mo_fewest_28 v1 v2 v3 g = some b) (hb : Sum.elim (fun s => Ev Lx 203 cd_203 12 [some (.ref 157), some (.int v1), some (.int s.1), some (.int s.2.1)] [] s.2.2 o) (fun e => Ev Lx 203 cd_203 80 [none, some (.int v1), some (.int e.1)] [] e.2 o) b) : Ev Lx 203 cd_203 28 [some (.ref 157), some (.int v1), some (.int v2), some (.int v3)] [] g o := by
  unfold j_Mo_fewest_28 at h
  refine ev_rn (n := 3) (i2 := 32) (L2 := [some (.ref 157), some (.int v1), some (.int v2), some (.int v3), some (.int (1 : Int32))]) (st2 := []) (g2 := g) cdE_203 rfl ?_
  exact ev_wk (L := [some (.ref 157), some (.int v1), some (.int v2), some (.int v3), some (.int (1 : Int32))]) (tj_Mo_fewest_32  v1 v2 v3 (1 : Int32)  g h hb) ⟨rfl, ⟨rfl, ⟨rfl, ⟨rfl, ⟨rfl, trivial⟩⟩⟩⟩⟩
def b_Mo_fewest_12 (v1 : Int32) (v2 : Int32) (v3 : Int32) (g : M2) : Option ((Int32 × Int32 × M2) ⊕ (Int32 × M2)) := (if ((1 : Int32) <<< ((g.1 160 1) &&& 31)) ≤ v3 then some (.inr (v2, g)) else (if v2 = (-1 : Int32) then (j_Mo_fewest_28 v1 v2 v3 g) else (if (f_In_bitCount v2 g) ≤ (f_In_bitCount v3 g) then (j_Mo_fewest_32 v1 v2 v3 (0 : Int32) g) else (j_Mo_fewest_28 v1 v2 v3 g))))
theorem tb_Mo_fewest_12 {Lx : Nat} (v1 : Int32)  (v2 : Int32) (v3 : Int32) (g : M2) {b : (Int32 × Int32 × M2) ⊕ (Int32 × M2)} {o : Option Value × M2} (h : b_Mo_fewest_12 v1 v2 v3 g = some b) (hb : Sum.elim (fun s => Ev Lx 203 cd_203 12 [some (.ref 157), some (.int v1), some (.int s.1), some (.int s.2.1)] [] s.2.2 o) (fun e => Ev Lx 203 cd_203 80 [none, some (.int v1), some (.int e.1)] [] e.2 o) b) : Ev Lx 203 cd_203 12 [some (.ref 157), some (.int v1), some (.int v2), some (.int v3)] [] g o := by
  unfold b_Mo_fewest_12 at h
  refine ev_rn (n := 5) (i2 := 17) (L2 := [some (.ref 157), some (.int v1), some (.int v2), some (.int v3)]) (st2 := [.int (1 : Int32), .ref 160, .int (1 : Int32), .int v3]) (g2 := g) cdE_203 rfl ?_
  refine ev_iaload (v := .int (g.1 160 1)) rfl (kd_of (show S0[160]? = some (100, 19, List.replicate 19 none) from rfl)) (by decide) ⟨by decide, by decide⟩ rfl ?_
  refine ev_rn (n := 1) (i2 := 19) (L2 := [some (.ref 157), some (.int v1), some (.int v2), some (.int v3)]) (st2 := [.int ((1 : Int32) <<< ((g.1 160 1) &&& 31)), .int v3]) (g2 := g) cdE_203 rfl ?_
  by_cases hc2 : ((1 : Int32) <<< ((g.1 160 1) &&& 31)) ≤ v3
  · rw [if_pos hc2] at h
    refine ev_ift cdE_203 rfl (cn_t hc2) ?_
    cases h
    exact ev_wk (L := [none, some (.int v1), some (.int v2)]) hb ⟨rfl, ⟨rfl, trivial⟩⟩
  · rw [if_neg hc2] at h
    refine ev_iff rfl (cn_f hc2) ?_
    refine ev_rn (n := 2) (i2 := 22) (L2 := [some (.ref 157), some (.int v1), some (.int v2), some (.int v3)]) (st2 := [.int (-1 : Int32), .int v2]) (g2 := g) cdE_203 rfl ?_
    by_cases hc3 : v2 = (-1 : Int32)
    · rw [if_pos hc3] at h
      refine ev_ift cdE_203 rfl (cn_t hc3) ?_
      exact ev_wk (L := [some (.ref 157), some (.int v1), some (.int v2), some (.int v3)]) (tj_Mo_fewest_28  v1 v2 v3  g h hb) ⟨rfl, ⟨rfl, ⟨rfl, ⟨rfl, trivial⟩⟩⟩⟩
    · rw [if_neg hc3] at h
      refine ev_iff rfl (cn_f hc3) ?_
      refine ev_rn (n := 1) (i2 := 24) (L2 := [some (.ref 157), some (.int v1), some (.int v2), some (.int v3)]) (st2 := [.int v3]) (g2 := g) cdE_203 rfl ?_
      refine ev_call rfl cdE_57 rfl rfl rfl (e_In_bitCount v3  g rfl) ?_
      refine ev_rn (n := 1) (i2 := 26) (L2 := [some (.ref 157), some (.int v1), some (.int v2), some (.int v3)]) (st2 := [.int v2, .int (f_In_bitCount v3 g)]) (g2 := g) cdE_203 rfl ?_
      refine ev_call rfl cdE_57 rfl rfl rfl (e_In_bitCount v2  g rfl) ?_
      by_cases hc15 : (f_In_bitCount v2 g) ≤ (f_In_bitCount v3 g)
      · rw [if_pos hc15] at h
        refine ev_ift cdE_203 rfl (cn_t hc15) ?_
        refine ev_rn (n := 2) (i2 := 32) (L2 := [some (.ref 157), some (.int v1), some (.int v2), some (.int v3), some (.int (0 : Int32))]) (st2 := []) (g2 := g) cdE_203 rfl ?_
        exact ev_wk (L := [some (.ref 157), some (.int v1), some (.int v2), some (.int v3), some (.int (0 : Int32))]) (tj_Mo_fewest_32  v1 v2 v3 (0 : Int32)  g h hb) ⟨rfl, ⟨rfl, ⟨rfl, ⟨rfl, ⟨rfl, trivial⟩⟩⟩⟩⟩
      · rw [if_neg hc15] at h
        refine ev_iff rfl (cn_f hc15) ?_
        exact ev_wk (L := [some (.ref 157), some (.int v1), some (.int v2), some (.int v3)]) (tj_Mo_fewest_28  v1 v2 v3  g h hb) ⟨rfl, ⟨rfl, ⟨rfl, ⟨rfl, trivial⟩⟩⟩⟩
def f_Mo_fewest (p0 : Int32) (g : M2) : Option (Int32 × M2) := (if (f_Mo_in p0.toInt64 (0 : Int64) (1 : Int64) g) = 0 then some ((-2 : Int32), g) else ((lp (fun s => b_Mo_fewest_12 p0 s.1 s.2.1 s.2.2) 5000 ((-1 : Int32), (0 : Int32), g)).bind fun e16 => (if e16.1 = (-1 : Int32) then some ((-1 : Int32), e16.2) else (if p0 = 0 then some ((f_In_bitCount e16.1 e16.2), e16.2) else some (e16.1, e16.2)))))
theorem e_Mo_fewest {Lx : Nat} (p0 : Int32)  (g : M2) {b : (Int32 × M2)} (h : f_Mo_fewest p0 g = some b) : Ev Lx 203 cd_203 0 [some (.ref 157), some (.int p0)] [] g (some (.int b.1), b.2) := by
  unfold f_Mo_fewest at h
  refine ev_rn (n := 4) (i2 := 4) (L2 := [some (.ref 157), some (.int p0)]) (st2 := [.long (1 : Int64), .long (0 : Int64), .long p0.toInt64]) (g2 := g) cdE_203 rfl ?_
  refine ev_call rfl cdE_16 rfl rfl rfl (e_Mo_in p0.toInt64 (0 : Int64) (1 : Int64)  g rfl) ?_
  by_cases hc1 : (f_Mo_in p0.toInt64 (0 : Int64) (1 : Int64) g) = 0
  · rw [if_pos hc1] at h
    refine ev_zff rfl (cn_f (fun q => q hc1)) ?_
    refine ev_rn (n := 1) (i2 := 7) (L2 := [some (.ref 157), some (.int p0)]) (st2 := [.int (-2 : Int32)]) (g2 := g) cdE_203 rfl ?_
    cases h
    exact ev_ret rfl rfl
  · rw [if_neg hc1] at h
    refine ev_zft cdE_203 rfl (cn_t hc1) ?_
    refine ev_rn (n := 4) (i2 := 12) (L2 := [some (.ref 157), some (.int p0), some (.int (-1 : Int32)), some (.int (0 : Int32))]) (st2 := []) (g2 := g) cdE_203 rfl ?_
    obtain ⟨e16, he16, h⟩ := Option.bind_eq_some_iff.mp h
    have hX19 : Ev Lx 203 cd_203 80 [none, some (.int p0), some (.int e16.1)] [] e16.2 (some (.int b.1), b.2) := by
      refine ev_rn (n := 2) (i2 := 82) (L2 := [none, some (.int p0), some (.int e16.1)]) (st2 := [.int (-1 : Int32), .int e16.1]) (g2 := e16.2) cdE_203 rfl ?_
      by_cases hc17 : e16.1 = (-1 : Int32)
      · rw [if_pos hc17] at h
        refine ev_iff rfl (cn_f (fun q => q hc17)) ?_
        refine ev_rn (n := 2) (i2 := 91) (L2 := [none, some (.int p0), some (.int e16.1)]) (st2 := [.int (-1 : Int32)]) (g2 := e16.2) cdE_203 rfl ?_
        cases h
        exact ev_ret rfl rfl
      · rw [if_neg hc17] at h
        refine ev_ift cdE_203 rfl (cn_t hc17) ?_
        refine ev_rn (n := 1) (i2 := 86) (L2 := [none, some (.int p0), some (.int e16.1)]) (st2 := [.int p0]) (g2 := e16.2) cdE_203 rfl ?_
        by_cases hc18 : p0 = 0
        · rw [if_pos hc18] at h
          refine ev_zff rfl (cn_f (fun q => q hc18)) ?_
          refine ev_rn (n := 1) (i2 := 88) (L2 := [none, some (.int p0), some (.int e16.1)]) (st2 := [.int e16.1]) (g2 := e16.2) cdE_203 rfl ?_
          refine ev_call rfl cdE_57 rfl rfl rfl (e_In_bitCount e16.1  e16.2 rfl) ?_
          refine ev_rn (n := 1) (i2 := 91) (L2 := [none, some (.int p0), some (.int e16.1)]) (st2 := [.int (f_In_bitCount e16.1 e16.2)]) (g2 := e16.2) cdE_203 rfl ?_
          cases h
          exact ev_ret rfl rfl
        · rw [if_neg hc18] at h
          refine ev_zft cdE_203 rfl (cn_t hc18) ?_
          refine ev_rn (n := 1) (i2 := 91) (L2 := [none, some (.int p0), some (.int e16.1)]) (st2 := [.int e16.1]) (g2 := e16.2) cdE_203 rfl ?_
          cases h
          exact ev_ret rfl rfl
    exact ev_wk (L := [some (.ref 157), some (.int p0), some (.int (-1 : Int32)), some (.int (0 : Int32))]) (lp_ind (P := (fun (s : (Int32 × Int32 × M2)) => Ev Lx 203 cd_203 12 [some (.ref 157), some (.int p0), some (.int s.1), some (.int s.2.1)] [] s.2.2 (some (.int b.1), b.2))) (fun s s2 hs hP => tb_Mo_fewest_12 p0  s.1 s.2.1 s.2.2 (b := .inl s2) hs hP) (fun s hs => tb_Mo_fewest_12 p0  s.1 s.2.1 s.2.2 (b := .inr e16) hs hX19) _ _ he16) ⟨rfl, ⟨rfl, ⟨rfl, ⟨rfl, trivial⟩⟩⟩⟩
def f_Da_leak (p0 : Int32) (p1 : Int32) (p2 : Int32) (g : M2) : Option (Int64 × M2) := ((f_Da_refresh g).bind fun q1 => (if (q1.1 6 13) = 0 then some ((-9223372036854775808 : Int64), q1) else (if (f_Pl_has 7 p0 q1) = 0 then some ((-9223372036854775808 : Int64), q1) else (if (f_Da_isDirection p1 q1) = 0 then some ((-9223372036854775808 : Int64), q1) else (if inb p1 12 then ((f_Nu_copy 155 (55 + 1 + p1.toNatClampNeg) q1).bind fun q6 => (if inb p0 5 then (if inb p0 5 then ((f_Nu_addTurned 155 (49 + 1 + p0.toNatClampNeg) ((p1 * (q6.1 8 p0.toNatClampNeg)) + (6 : Int32)) q6).bind fun q9 => ((f_Da_realPart (f_Nu_powerX 155 q9) (f_Nu_powerY 155 q9) ((q9.2 6 16) * (q9.2 6 16)) p2 q9).bind fun q10 => some (q10, q9))) else none) else none)) else none)))))
theorem e_Da_leak {Lx : Nat} (p0 : Int32) (p1 : Int32) (p2 : Int32)  (g : M2) {b : (Int64 × M2)} (h : f_Da_leak p0 p1 p2 g = some b) : Ev Lx 204 cd_204 0 [some (.ref 0), some (.int p0), some (.int p1), some (.int p2)] [] g (some (.long b.1), b.2) := by
  unfold f_Da_leak at h
  refine ev_rn (n := 1) (i2 := 1) (L2 := [some (.ref 0), some (.int p0), some (.int p1), some (.int p2)]) (st2 := [.ref 0]) (g2 := g) cdE_204 rfl ?_
  obtain ⟨q1, hq1, h⟩ := Option.bind_eq_some_iff.mp h
  refine ev_call rfl cdE_100 rfl rfl rfl (e_Da_refresh   g hq1) ?_
  refine ev_rn (n := 3) (i2 := 5) (L2 := [some (.ref 0), some (.int p0), some (.int p1), some (.int p2)]) (st2 := [.int (q1.1 6 13)]) (g2 := q1) cdE_204 rfl ?_
  by_cases hc2 : (q1.1 6 13) = 0
  · rw [if_pos hc2] at h
    refine ev_zft cdE_204 rfl (cn_t hc2) ?_
    refine ev_rn (n := 1) (i2 := 16) (L2 := [some (.ref 0), some (.int p0), some (.int p1), some (.int p2)]) (st2 := [.long (-9223372036854775808 : Int64)]) (g2 := q1) cdE_204 rfl ?_
    cases h
    exact ev_ret rfl rfl
  · rw [if_neg hc2] at h
    refine ev_zff rfl (cn_f hc2) ?_
    refine ev_rn (n := 4) (i2 := 10) (L2 := [some (.ref 0), some (.int p0), some (.int p1), some (.int p2)]) (st2 := [.int p0, .ref 7]) (g2 := q1) cdE_204 rfl ?_
    refine ev_call rfl cdE_66 rfl rfl rfl (e_Pl_has 7 p0 (by decide) q1 rfl) ?_
    by_cases hc3 : (f_Pl_has 7 p0 q1) = 0
    · rw [if_pos hc3] at h
      refine ev_zft cdE_204 rfl (cn_t hc3) ?_
      refine ev_rn (n := 1) (i2 := 16) (L2 := [some (.ref 0), some (.int p0), some (.int p1), some (.int p2)]) (st2 := [.long (-9223372036854775808 : Int64)]) (g2 := q1) cdE_204 rfl ?_
      cases h
      exact ev_ret rfl rfl
    · rw [if_neg hc3] at h
      refine ev_zff rfl (cn_f hc3) ?_
      refine ev_rn (n := 1) (i2 := 13) (L2 := [some (.ref 0), some (.int p0), some (.int p1), some (.int p2)]) (st2 := [.int p1]) (g2 := q1) cdE_204 rfl ?_
      refine ev_call rfl cdE_71 rfl rfl rfl (e_Da_isDirection p1  q1 rfl) ?_
      by_cases hc4 : (f_Da_isDirection p1 q1) = 0
      · rw [if_pos hc4] at h
        refine ev_zff rfl (cn_f (fun q => q hc4)) ?_
        refine ev_rn (n := 1) (i2 := 16) (L2 := [some (.ref 0), some (.int p0), some (.int p1), some (.int p2)]) (st2 := [.long (-9223372036854775808 : Int64)]) (g2 := q1) cdE_204 rfl ?_
        cases h
        exact ev_ret rfl rfl
      · rw [if_neg hc4] at h
        refine ev_zft cdE_204 rfl (cn_t hc4) ?_
        refine ev_rn (n := 6) (i2 := 23) (L2 := [some (.ref 0), some (.int p0), some (.int p1), some (.int p2)]) (st2 := [.int p1, .ref 55, .ref 155]) (g2 := q1) cdE_204 rfl ?_
        by_cases hi5 : inb p1 12
        · rw [if_pos hi5] at h
          refine ev_aaload (v := .ref (55 + 1 + p1.toNatClampNeg)) rfl (kd_of (na_at (na_55))) (by decide) hi5 (na_rf (w := 55) hi5.2) ?_
          obtain ⟨q6, hq6, h⟩ := Option.bind_eq_some_iff.mp h
          refine ev_call rfl cdE_91 rfl rfl rfl (e_Nu_copy 155 (55 + 1 + p1.toNatClampNeg) (num_lit 155 rfl) (na_el (na_55) hi5.2) q1 hq6) ?_
          refine ev_rn (n := 6) (i2 := 31) (L2 := [some (.ref 0), some (.int p0), some (.int p1), some (.int p2)]) (st2 := [.int p0, .ref 49, .ref 155]) (g2 := q6) cdE_204 rfl ?_
          by_cases hi7 : inb p0 5
          · rw [if_pos hi7] at h
            refine ev_aaload (v := .ref (49 + 1 + p0.toNatClampNeg)) rfl (kd_of (na_at (na_49))) (by decide) hi7 (na_rf (w := 49) hi7.2) ?_
            refine ev_rn (n := 6) (i2 := 38) (L2 := [some (.ref 0), some (.int p0), some (.int p1), some (.int p2)]) (st2 := [.int p0, .ref 8, .int p1, .ref (49 + 1 + p0.toNatClampNeg), .ref 155]) (g2 := q6) cdE_204 rfl ?_
            by_cases hi8 : inb p0 5
            · rw [if_pos hi8] at h
              refine ev_iaload (v := .int (q6.1 8 p0.toNatClampNeg)) rfl (kd_of (show S0[8]? = some (100, 5, List.replicate 5 none) from rfl)) (by decide) hi8 rfl ?_
              refine ev_rn (n := 3) (i2 := 42) (L2 := [some (.ref 0), some (.int p0), some (.int p1), some (.int p2)]) (st2 := [.int ((p1 * (q6.1 8 p0.toNatClampNeg)) + (6 : Int32)), .ref (49 + 1 + p0.toNatClampNeg), .ref 155]) (g2 := q6) cdE_204 rfl ?_
              obtain ⟨q9, hq9, h⟩ := Option.bind_eq_some_iff.mp h
              refine ev_call rfl cdE_93 rfl rfl rfl (e_Nu_addTurned 155 (49 + 1 + p0.toNatClampNeg) ((p1 * (q6.1 8 p0.toNatClampNeg)) + (6 : Int32)) (num_lit 155 rfl) (na_el (na_49) hi7.2) q6 hq9) ?_
              refine ev_rn (n := 2) (i2 := 45) (L2 := [some (.ref 0), some (.int p0), some (.int p1), some (.int p2)]) (st2 := [.ref 155]) (g2 := q9) cdE_204 rfl ?_
              refine ev_call rfl cdE_97 rfl rfl rfl (e_Nu_powerX 155 (num_lit 155 rfl) q9 rfl) ?_
              refine ev_rn (n := 2) (i2 := 48) (L2 := [some (.ref 0), some (.int p0), some (.int p1), some (.int p2)]) (st2 := [.ref 155, .long (f_Nu_powerX 155 q9)]) (g2 := q9) cdE_204 rfl ?_
              refine ev_call rfl cdE_98 rfl rfl rfl (e_Nu_powerY 155 (num_lit 155 rfl) q9 rfl) ?_
              refine ev_rn (n := 8) (i2 := 57) (L2 := [some (.ref 0), some (.int p0), some (.int p1), some (.int p2)]) (st2 := [.int p2, .long ((q9.2 6 16) * (q9.2 6 16)), .long (f_Nu_powerY 155 q9), .long (f_Nu_powerX 155 q9)]) (g2 := q9) cdE_204 rfl ?_
              obtain ⟨q10, hq10, h⟩ := Option.bind_eq_some_iff.mp h
              refine ev_call rfl cdE_135 rfl rfl rfl (e_Da_realPart (f_Nu_powerX 155 q9) (f_Nu_powerY 155 q9) ((q9.2 6 16) * (q9.2 6 16)) p2  q9 hq10) ?_
              cases h
              exact ev_ret rfl rfl
            · rw [if_neg hi8] at h
              cases h
          · rw [if_neg hi7] at h
            cases h
        · rw [if_neg hi5] at h
          cases h
def f_Mo_laysLeak (p0 : Int32) (p1 : Int32) (g : M2) : Option (M2) := ((f_Mo_clears (87 : Int32) g).bind fun q1 => ((f_Mo_adds (87 : Int32) ((67 : Int32) + p1) (1 : Int64) q1).bind fun q2 => (if inb p0 5 then (if (q2.1 166 p0.toNatClampNeg) = (-1 : Int32) then some q2 else (if inb p0 5 then (if inb ((2 : Int32) + p0) 19 then ((f_Mo_addsTurned (87 : Int32) ((62 : Int32) + (q2.1 166 p0.toNatClampNeg)) (p1 * (q2.1 160 ((2 : Int32) + p0).toNatClampNeg)) (-1 : Int64) q2).bind fun q7 => some q7) else none) else none)) else none)))
theorem e_Mo_laysLeak {Lx : Nat} (p0 : Int32) (p1 : Int32)  (g : M2) {b : M2} (h : f_Mo_laysLeak p0 p1 g = some b) : Ev Lx 205 cd_205 0 [some (.ref 157), some (.int p0), some (.int p1)] [] g (none, b) := by
  unfold f_Mo_laysLeak at h
  refine ev_rn (n := 2) (i2 := 2) (L2 := [some (.ref 157), some (.int p0), some (.int p1)]) (st2 := [.int (87 : Int32), .ref 157]) (g2 := g) cdE_205 rfl ?_
  obtain ⟨q1, hq1, h⟩ := Option.bind_eq_some_iff.mp h
  refine ev_call rfl cdE_104 rfl rfl rfl (e_Mo_clears (87 : Int32)  g hq1) ?_
  refine ev_rn (n := 6) (i2 := 9) (L2 := [some (.ref 157), some (.int p0), some (.int p1)]) (st2 := [.long (1 : Int64), .int ((67 : Int32) + p1), .int (87 : Int32), .ref 157]) (g2 := q1) cdE_205 rfl ?_
  obtain ⟨q2, hq2, h⟩ := Option.bind_eq_some_iff.mp h
  refine ev_call rfl cdE_113 rfl rfl rfl (e_Mo_adds (87 : Int32) ((67 : Int32) + p1) (1 : Int64)  q1 hq2) ?_
  refine ev_rn (n := 3) (i2 := 13) (L2 := [some (.ref 157), some (.int p0), some (.int p1)]) (st2 := [.int p0, .ref 166]) (g2 := q2) cdE_205 rfl ?_
  by_cases hi3 : inb p0 5
  · rw [if_pos hi3] at h
    refine ev_iaload (v := .int (q2.1 166 p0.toNatClampNeg)) rfl (kd_of (show S0[166]? = some (100, 5, List.replicate 5 none) from rfl)) (by decide) hi3 rfl ?_
    refine ev_rn (n := 1) (i2 := 15) (L2 := [some (.ref 157), some (.int p0), some (.int p1)]) (st2 := [.int (-1 : Int32), .int (q2.1 166 p0.toNatClampNeg)]) (g2 := q2) cdE_205 rfl ?_
    by_cases hc4 : (q2.1 166 p0.toNatClampNeg) = (-1 : Int32)
    · rw [if_pos hc4] at h
      refine ev_ift cdE_205 rfl (cn_t hc4) ?_
      cases h
      exact ev_ret rfl rfl
    · rw [if_neg hc4] at h
      refine ev_iff rfl (cn_f hc4) ?_
      refine ev_rn (n := 6) (i2 := 22) (L2 := [some (.ref 157), some (.int p0), some (.int p1)]) (st2 := [.int p0, .ref 166, .int (62 : Int32), .int (87 : Int32), .ref 157]) (g2 := q2) cdE_205 rfl ?_
      by_cases hi5 : inb p0 5
      · rw [if_pos hi5] at h
        refine ev_iaload (v := .int (q2.1 166 p0.toNatClampNeg)) rfl (kd_of (show S0[166]? = some (100, 5, List.replicate 5 none) from rfl)) (by decide) hi5 rfl ?_
        refine ev_rn (n := 7) (i2 := 30) (L2 := [some (.ref 157), some (.int p0), some (.int p1)]) (st2 := [.int ((2 : Int32) + p0), .ref 160, .int p1, .int ((62 : Int32) + (q2.1 166 p0.toNatClampNeg)), .int (87 : Int32), .ref 157]) (g2 := q2) cdE_205 rfl ?_
        by_cases hi6 : inb ((2 : Int32) + p0) 19
        · rw [if_pos hi6] at h
          refine ev_iaload (v := .int (q2.1 160 ((2 : Int32) + p0).toNatClampNeg)) rfl (kd_of (show S0[160]? = some (100, 19, List.replicate 19 none) from rfl)) (by decide) hi6 rfl ?_
          refine ev_rn (n := 2) (i2 := 33) (L2 := [some (.ref 157), some (.int p0), some (.int p1)]) (st2 := [.long (-1 : Int64), .int (p1 * (q2.1 160 ((2 : Int32) + p0).toNatClampNeg)), .int ((62 : Int32) + (q2.1 166 p0.toNatClampNeg)), .int (87 : Int32), .ref 157]) (g2 := q2) cdE_205 rfl ?_
          obtain ⟨q7, hq7, h⟩ := Option.bind_eq_some_iff.mp h
          refine ev_call rfl cdE_114 rfl rfl rfl (e_Mo_addsTurned (87 : Int32) ((62 : Int32) + (q2.1 166 p0.toNatClampNeg)) (p1 * (q2.1 160 ((2 : Int32) + p0).toNatClampNeg)) (-1 : Int64)  q2 hq7) ?_
          cases h
          exact ev_ret rfl rfl
        · rw [if_neg hi6] at h
          cases h
      · rw [if_neg hi5] at h
        cases h
  · rw [if_neg hi3] at h
    cases h
def f_Mo_leak (p0 : Int32) (p1 : Int32) (p2 : Int32) (g : M2) : Option (Int64 × M2) := ((f_Mo_isElement p0 g).bind fun q1 => (if q1 = 0 then some ((-9223372036854775808 : Int64), g) else (if (f_Mo_isDirection p1 g) = 0 then some ((-9223372036854775808 : Int64), g) else (if (f_Mo_in p2.toInt64 (0 : Int64) (2 : Int64) g) = 0 then some ((-9223372036854775808 : Int64), g) else ((f_Mo_canNow g).bind fun q5 => (if q5.1 = 0 then some ((-9223372036854775808 : Int64), q5.2) else ((f_Mo_laysLeak p0 p1 q5.2).bind fun q7 => ((f_Mo_laysPower (87 : Int32) q7).bind fun q8 => ((f_Mo_toldPower (q8.2 157 3) (q8.2 157 4) ((q8.2 157 16) * (q8.2 157 16)) p2 q8).bind fun q9 => some (q9, q8))))))))))
theorem e_Mo_leak {Lx : Nat} (p0 : Int32) (p1 : Int32) (p2 : Int32)  (g : M2) {b : (Int64 × M2)} (h : f_Mo_leak p0 p1 p2 g = some b) : Ev Lx 206 cd_206 0 [some (.ref 157), some (.int p0), some (.int p1), some (.int p2)] [] g (some (.long b.1), b.2) := by
  unfold f_Mo_leak at h
  refine ev_rn (n := 2) (i2 := 2) (L2 := [some (.ref 157), some (.int p0), some (.int p1), some (.int p2)]) (st2 := [.int p0, .ref 157]) (g2 := g) cdE_206 rfl ?_
  obtain ⟨q1, hq1, h⟩ := Option.bind_eq_some_iff.mp h
  refine ev_call rfl cdE_69 rfl rfl rfl (e_Mo_isElement p0  g hq1) ?_
  by_cases hc2 : q1 = 0
  · rw [if_pos hc2] at h
    refine ev_zft cdE_206 rfl (cn_t hc2) ?_
    refine ev_rn (n := 1) (i2 := 17) (L2 := [some (.ref 157), some (.int p0), some (.int p1), some (.int p2)]) (st2 := [.long (-9223372036854775808 : Int64)]) (g2 := g) cdE_206 rfl ?_
    cases h
    exact ev_ret rfl rfl
  · rw [if_neg hc2] at h
    refine ev_zff rfl (cn_f hc2) ?_
    refine ev_rn (n := 1) (i2 := 5) (L2 := [some (.ref 157), some (.int p0), some (.int p1), some (.int p2)]) (st2 := [.int p1]) (g2 := g) cdE_206 rfl ?_
    refine ev_call rfl cdE_73 rfl rfl rfl (e_Mo_isDirection p1  g rfl) ?_
    by_cases hc3 : (f_Mo_isDirection p1 g) = 0
    · rw [if_pos hc3] at h
      refine ev_zft cdE_206 rfl (cn_t hc3) ?_
      refine ev_rn (n := 1) (i2 := 17) (L2 := [some (.ref 157), some (.int p0), some (.int p1), some (.int p2)]) (st2 := [.long (-9223372036854775808 : Int64)]) (g2 := g) cdE_206 rfl ?_
      cases h
      exact ev_ret rfl rfl
    · rw [if_neg hc3] at h
      refine ev_zff rfl (cn_f hc3) ?_
      refine ev_rn (n := 4) (i2 := 11) (L2 := [some (.ref 157), some (.int p0), some (.int p1), some (.int p2)]) (st2 := [.long (2 : Int64), .long (0 : Int64), .long p2.toInt64]) (g2 := g) cdE_206 rfl ?_
      refine ev_call rfl cdE_16 rfl rfl rfl (e_Mo_in p2.toInt64 (0 : Int64) (2 : Int64)  g rfl) ?_
      by_cases hc4 : (f_Mo_in p2.toInt64 (0 : Int64) (2 : Int64) g) = 0
      · rw [if_pos hc4] at h
        refine ev_zft cdE_206 rfl (cn_t hc4) ?_
        refine ev_rn (n := 1) (i2 := 17) (L2 := [some (.ref 157), some (.int p0), some (.int p1), some (.int p2)]) (st2 := [.long (-9223372036854775808 : Int64)]) (g2 := g) cdE_206 rfl ?_
        cases h
        exact ev_ret rfl rfl
      · rw [if_neg hc4] at h
        refine ev_zff rfl (cn_f hc4) ?_
        refine ev_rn (n := 1) (i2 := 14) (L2 := [some (.ref 157), some (.int p0), some (.int p1), some (.int p2)]) (st2 := [.ref 157]) (g2 := g) cdE_206 rfl ?_
        obtain ⟨q5, hq5, h⟩ := Option.bind_eq_some_iff.mp h
        refine ev_call rfl cdE_118 rfl rfl rfl (e_Mo_canNow   g hq5) ?_
        by_cases hc6 : q5.1 = 0
        · rw [if_pos hc6] at h
          refine ev_zff rfl (cn_f (fun q => q hc6)) ?_
          refine ev_rn (n := 1) (i2 := 17) (L2 := [some (.ref 157), some (.int p0), some (.int p1), some (.int p2)]) (st2 := [.long (-9223372036854775808 : Int64)]) (g2 := q5.2) cdE_206 rfl ?_
          cases h
          exact ev_ret rfl rfl
        · rw [if_neg hc6] at h
          refine ev_zft cdE_206 rfl (cn_t hc6) ?_
          refine ev_rn (n := 3) (i2 := 21) (L2 := [some (.ref 157), some (.int p0), some (.int p1), some (.int p2)]) (st2 := [.int p1, .int p0, .ref 157]) (g2 := q5.2) cdE_206 rfl ?_
          obtain ⟨q7, hq7, h⟩ := Option.bind_eq_some_iff.mp h
          refine ev_call rfl cdE_205 rfl rfl rfl (e_Mo_laysLeak p0 p1  q5.2 hq7) ?_
          refine ev_rn (n := 2) (i2 := 24) (L2 := [some (.ref 157), some (.int p0), some (.int p1), some (.int p2)]) (st2 := [.int (87 : Int32), .ref 157]) (g2 := q7) cdE_206 rfl ?_
          obtain ⟨q8, hq8, h⟩ := Option.bind_eq_some_iff.mp h
          refine ev_call rfl cdE_137 rfl rfl rfl (e_Mo_laysPower (87 : Int32)  q7 hq8) ?_
          refine ev_rn (n := 11) (i2 := 36) (L2 := [some (.ref 157), some (.int p0), some (.int p1), some (.int p2)]) (st2 := [.int p2, .long ((q8.2 157 16) * (q8.2 157 16)), .long (q8.2 157 4), .long (q8.2 157 3), .ref 157]) (g2 := q8) cdE_206 rfl ?_
          obtain ⟨q9, hq9, h⟩ := Option.bind_eq_some_iff.mp h
          refine ev_call rfl cdE_138 rfl rfl rfl (e_Mo_toldPower (q8.2 157 3) (q8.2 157 4) ((q8.2 157 16) * (q8.2 157 16)) p2  q8 hq9) ?_
          cases h
          exact ev_ret rfl rfl
def b_Da_weakest_20  (v1 : Int32) (g : M2) : Option ((Int32 × M2) ⊕ M2) := (if (g.1 7 2) ≤ v1 then some (.inr g) else (if inb v1 5 then ((f_Gr_offer (49 + 1 + v1.toNatClampNeg) v1 g).bind fun q7 => some (.inl ((v1 + (1 : Int32)), q7))) else none))
theorem tb_Da_weakest_20 {Lx : Nat}   (v1 : Int32) (g : M2) {b : (Int32 × M2) ⊕ M2} {o : Option Value × M2} (h : b_Da_weakest_20 v1 g = some b) (hb : Sum.elim (fun s => Ev Lx 207 cd_207 20 [some (.ref 0), some (.int s.1)] [] s.2 o) (fun e => Ev Lx 207 cd_207 37 [some (.ref 0)] [] e o) b) : Ev Lx 207 cd_207 20 [some (.ref 0), some (.int v1)] [] g o := by
  unfold b_Da_weakest_20 at h
  refine ev_rn (n := 5) (i2 := 25) (L2 := [some (.ref 0), some (.int v1)]) (st2 := [.int (g.1 7 2), .int v1]) (g2 := g) cdE_207 rfl ?_
  by_cases hc5 : (g.1 7 2) ≤ v1
  · rw [if_pos hc5] at h
    refine ev_ift cdE_207 rfl (cn_t hc5) ?_
    cases h
    exact ev_wk (L := [some (.ref 0)]) hb ⟨rfl, trivial⟩
  · rw [if_neg hc5] at h
    refine ev_iff rfl (cn_f hc5) ?_
    refine ev_rn (n := 6) (i2 := 32) (L2 := [some (.ref 0), some (.int v1)]) (st2 := [.int v1, .ref 49, .ref 152]) (g2 := g) cdE_207 rfl ?_
    by_cases hi6 : inb v1 5
    · rw [if_pos hi6] at h
      refine ev_aaload (v := .ref (49 + 1 + v1.toNatClampNeg)) rfl (kd_of (na_at (na_49))) (by decide) hi6 (na_rf (w := 49) hi6.2) ?_
      refine ev_rn (n := 1) (i2 := 34) (L2 := [some (.ref 0), some (.int v1)]) (st2 := [.int v1, .ref (49 + 1 + v1.toNatClampNeg), .ref 152]) (g2 := g) cdE_207 rfl ?_
      obtain ⟨q7, hq7, h⟩ := Option.bind_eq_some_iff.mp h
      refine ev_call rfl cdE_174 rfl rfl rfl (e_Gr_offer (49 + 1 + v1.toNatClampNeg) v1 (na_el (na_49) hi6.2) g hq7) ?_
      refine ev_rn (n := 2) (i2 := 20) (L2 := [some (.ref 0), some (.int (v1 + (1 : Int32)))]) (st2 := []) (g2 := q7) cdE_207 rfl ?_
      cases h
      exact ev_wk (L := [some (.ref 0), some (.int (v1 + (1 : Int32)))]) hb ⟨rfl, ⟨rfl, trivial⟩⟩
    · rw [if_neg hi6] at h
      cases h
def f_Da_weakest  (g : M2) : Option (Int32 × M2) := ((f_Da_refresh g).bind fun q1 => (if (q1.1 6 13) = 0 then some ((-2 : Int32), q1) else (if (q1.1 7 5) = 0 then some ((-1 : Int32), q1) else ((f_Gr_clear q1).bind fun q4 => ((lp (fun s => b_Da_weakest_20  s.1 s.2) 5000 ((0 : Int32), q4)).bind fun e8 => some ((e8.1 152 0), e8))))))
theorem e_Da_weakest {Lx : Nat}   (g : M2) {b : (Int32 × M2)} (h : f_Da_weakest  g = some b) : Ev Lx 207 cd_207 0 [some (.ref 0)] [] g (some (.int b.1), b.2) := by
  unfold f_Da_weakest at h
  refine ev_rn (n := 1) (i2 := 1) (L2 := [some (.ref 0)]) (st2 := [.ref 0]) (g2 := g) cdE_207 rfl ?_
  obtain ⟨q1, hq1, h⟩ := Option.bind_eq_some_iff.mp h
  refine ev_call rfl cdE_100 rfl rfl rfl (e_Da_refresh   g hq1) ?_
  refine ev_rn (n := 3) (i2 := 5) (L2 := [some (.ref 0)]) (st2 := [.int (q1.1 6 13)]) (g2 := q1) cdE_207 rfl ?_
  by_cases hc2 : (q1.1 6 13) = 0
  · rw [if_pos hc2] at h
    refine ev_zff rfl (cn_f (fun q => q hc2)) ?_
    refine ev_rn (n := 1) (i2 := 7) (L2 := [some (.ref 0)]) (st2 := [.int (-2 : Int32)]) (g2 := q1) cdE_207 rfl ?_
    cases h
    exact ev_ret rfl rfl
  · rw [if_neg hc2] at h
    refine ev_zft cdE_207 rfl (cn_t hc2) ?_
    refine ev_rn (n := 4) (i2 := 12) (L2 := [some (.ref 0)]) (st2 := [.int (q1.1 7 5)]) (g2 := q1) cdE_207 rfl ?_
    by_cases hc3 : (q1.1 7 5) = 0
    · rw [if_pos hc3] at h
      refine ev_zff rfl (cn_f (fun q => q hc3)) ?_
      refine ev_rn (n := 1) (i2 := 14) (L2 := [some (.ref 0)]) (st2 := [.int (-1 : Int32)]) (g2 := q1) cdE_207 rfl ?_
      cases h
      exact ev_ret rfl rfl
    · rw [if_neg hc3] at h
      refine ev_zft cdE_207 rfl (cn_t hc3) ?_
      refine ev_rn (n := 2) (i2 := 17) (L2 := [some (.ref 0)]) (st2 := [.ref 152]) (g2 := q1) cdE_207 rfl ?_
      obtain ⟨q4, hq4, h⟩ := Option.bind_eq_some_iff.mp h
      refine ev_call rfl cdE_173 rfl rfl rfl (e_Gr_clear   q1 hq4) ?_
      refine ev_rn (n := 2) (i2 := 20) (L2 := [some (.ref 0), some (.int (0 : Int32))]) (st2 := []) (g2 := q4) cdE_207 rfl ?_
      obtain ⟨e8, he8, h⟩ := Option.bind_eq_some_iff.mp h
      have hX9 : Ev Lx 207 cd_207 37 [some (.ref 0)] [] e8 (some (.int b.1), b.2) := by
        refine ev_rn (n := 3) (i2 := 40) (L2 := [some (.ref 0)]) (st2 := [.int (e8.1 152 0)]) (g2 := e8) cdE_207 rfl ?_
        cases h
        exact ev_ret rfl rfl
      exact ev_wk (L := [some (.ref 0), some (.int (0 : Int32))]) (lp_ind (P := (fun (s : (Int32 × M2)) => Ev Lx 207 cd_207 20 [some (.ref 0), some (.int s.1)] [] s.2 (some (.int b.1), b.2))) (fun s s2 hs hP => tb_Da_weakest_20   s.1 s.2 (b := .inl s2) hs hP) (fun s hs => tb_Da_weakest_20   s.1 s.2 (b := .inr e8) hs hX9) _ _ he8) ⟨rfl, ⟨rfl, trivial⟩⟩
def b_Mo_weakest_21 (v6 : Int32) (v1 : Int32) (v2 : Int64) (v4 : Int64) (v7 : Int32) (g : M2) : Option ((Int32 × Int64 × Int64 × Int32 × M2) ⊕ (Int32 × Int64 × Int64 × M2)) := (if (g.1 160 13) ≤ v7 then some (.inr (v1, v2, v4, g)) else (if inb ((14 : Int32) + v7) 19 then ((f_Mo_laysLeak v6 (g.1 160 ((14 : Int32) + v7).toNatClampNeg) g).bind fun q6 => ((f_Mo_laysPower (87 : Int32) q6).bind fun q7 => (if v1 = (-1 : Int32) then some (.inl (v6, (q7.2 157 3), (q7.2 157 4), (v7 + (1 : Int32)), q7)) else ((f_Mo_signOf ((q7.2 157 3) - v2) ((q7.2 157 4) - v4) q7).bind fun q9 => (if 0 < q9 then some (.inl (v6, (q7.2 157 3), (q7.2 157 4), (v7 + (1 : Int32)), q7)) else some (.inl (v1, v2, v4, (v7 + (1 : Int32)), q7))))))) else none))
theorem tb_Mo_weakest_21 {Lx : Nat} (v6 : Int32)  (v1 : Int32) (v2 : Int64) (v4 : Int64) (v7 : Int32) (g : M2) {b : (Int32 × Int64 × Int64 × Int32 × M2) ⊕ (Int32 × Int64 × Int64 × M2)} {o : Option Value × M2} (h : b_Mo_weakest_21 v6 v1 v2 v4 v7 g = some b) (hb : Sum.elim (fun s => Ev Lx 208 cd_208 21 [some (.ref 157), some (.int s.1), some (.long s.2.1), none, some (.long s.2.2.1), none, some (.int v6), some (.int s.2.2.2.1)] [] s.2.2.2.2 o) (fun e => Ev Lx 208 cd_208 63 [some (.ref 157), some (.int e.1), some (.long e.2.1), none, some (.long e.2.2.1), none, some (.int v6)] [] e.2.2.2 o) b) : Ev Lx 208 cd_208 21 [some (.ref 157), some (.int v1), some (.long v2), none, some (.long v4), none, some (.int v6), some (.int v7)] [] g o := by
  unfold b_Mo_weakest_21 at h
  refine ev_rn (n := 4) (i2 := 25) (L2 := [some (.ref 157), some (.int v1), some (.long v2), none, some (.long v4), none, some (.int v6), some (.int v7)]) (st2 := [.int (13 : Int32), .ref 160, .int v7]) (g2 := g) cdE_208 rfl ?_
  refine ev_iaload (v := .int (g.1 160 13)) rfl (kd_of (show S0[160]? = some (100, 19, List.replicate 19 none) from rfl)) (by decide) ⟨by decide, by decide⟩ rfl ?_
  by_cases hc4 : (g.1 160 13) ≤ v7
  · rw [if_pos hc4] at h
    refine ev_ift cdE_208 rfl (cn_t hc4) ?_
    cases h
    exact ev_wk (L := [some (.ref 157), some (.int v1), some (.long v2), none, some (.long v4), none, some (.int v6)]) hb ⟨rfl, ⟨rfl, ⟨rfl, ⟨rfl, ⟨rfl, trivial⟩⟩⟩⟩⟩
  · rw [if_neg hc4] at h
    refine ev_iff rfl (cn_f hc4) ?_
    refine ev_rn (n := 7) (i2 := 34) (L2 := [some (.ref 157), some (.int v1), some (.long v2), none, some (.long v4), none, some (.int v6), some (.int v7)]) (st2 := [.int ((14 : Int32) + v7), .ref 160, .int v6, .ref 157]) (g2 := g) cdE_208 rfl ?_
    by_cases hi5 : inb ((14 : Int32) + v7) 19
    · rw [if_pos hi5] at h
      refine ev_iaload (v := .int (g.1 160 ((14 : Int32) + v7).toNatClampNeg)) rfl (kd_of (show S0[160]? = some (100, 19, List.replicate 19 none) from rfl)) (by decide) hi5 rfl ?_
      obtain ⟨q6, hq6, h⟩ := Option.bind_eq_some_iff.mp h
      refine ev_call rfl cdE_205 rfl rfl rfl (e_Mo_laysLeak v6 (g.1 160 ((14 : Int32) + v7).toNatClampNeg)  g hq6) ?_
      refine ev_rn (n := 2) (i2 := 38) (L2 := [some (.ref 157), some (.int v1), some (.long v2), none, some (.long v4), none, some (.int v6), some (.int v7)]) (st2 := [.int (87 : Int32), .ref 157]) (g2 := q6) cdE_208 rfl ?_
      obtain ⟨q7, hq7, h⟩ := Option.bind_eq_some_iff.mp h
      refine ev_call rfl cdE_137 rfl rfl rfl (e_Mo_laysPower (87 : Int32)  q6 hq7) ?_
      refine ev_rn (n := 2) (i2 := 41) (L2 := [some (.ref 157), some (.int v1), some (.long v2), none, some (.long v4), none, some (.int v6), some (.int v7)]) (st2 := [.int (-1 : Int32), .int v1]) (g2 := q7) cdE_208 rfl ?_
      by_cases hc8 : v1 = (-1 : Int32)
      · rw [if_pos hc8] at h
        refine ev_ift cdE_208 rfl (cn_t hc8) ?_
        refine ev_rn (n := 5) (i2 := 58) (L2 := [some (.ref 157), some (.int v6), some (.long (q7.2 157 3)), none, some (.long v4), none, some (.int v6), some (.int v7)]) (st2 := []) (g2 := q7) cdE_208 rfl ?_
        refine ev_rn (n := 3) (i2 := 61) (L2 := [some (.ref 157), some (.int v6), some (.long (q7.2 157 3)), none, some (.long (q7.2 157 4)), none, some (.int v6), some (.int v7)]) (st2 := []) (g2 := q7) cdE_208 rfl ?_
        refine ev_rn (n := 2) (i2 := 21) (L2 := [some (.ref 157), some (.int v6), some (.long (q7.2 157 3)), none, some (.long (q7.2 157 4)), none, some (.int v6), some (.int (v7 + (1 : Int32)))]) (st2 := []) (g2 := q7) cdE_208 rfl ?_
        cases h
        exact ev_wk (L := [some (.ref 157), some (.int v6), some (.long (q7.2 157 3)), none, some (.long (q7.2 157 4)), none, some (.int v6), some (.int (v7 + (1 : Int32)))]) hb ⟨rfl, ⟨rfl, ⟨rfl, ⟨rfl, ⟨rfl, ⟨rfl, trivial⟩⟩⟩⟩⟩⟩
      · rw [if_neg hc8] at h
        refine ev_iff rfl (cn_f hc8) ?_
        refine ev_rn (n := 8) (i2 := 50) (L2 := [some (.ref 157), some (.int v1), some (.long v2), none, some (.long v4), none, some (.int v6), some (.int v7)]) (st2 := [.long ((q7.2 157 4) - v4), .long ((q7.2 157 3) - v2)]) (g2 := q7) cdE_208 rfl ?_
        obtain ⟨q9, hq9, h⟩ := Option.bind_eq_some_iff.mp h
        refine ev_call rfl cdE_148 rfl rfl rfl (e_Mo_signOf ((q7.2 157 3) - v2) ((q7.2 157 4) - v4)  q7 hq9) ?_
        by_cases hc10 : 0 < q9
        · rw [if_pos hc10] at h
          refine ev_zft cdE_208 rfl (cn_t hc10) ?_
          refine ev_rn (n := 5) (i2 := 58) (L2 := [some (.ref 157), some (.int v6), some (.long (q7.2 157 3)), none, some (.long v4), none, some (.int v6), some (.int v7)]) (st2 := []) (g2 := q7) cdE_208 rfl ?_
          refine ev_rn (n := 3) (i2 := 61) (L2 := [some (.ref 157), some (.int v6), some (.long (q7.2 157 3)), none, some (.long (q7.2 157 4)), none, some (.int v6), some (.int v7)]) (st2 := []) (g2 := q7) cdE_208 rfl ?_
          refine ev_rn (n := 2) (i2 := 21) (L2 := [some (.ref 157), some (.int v6), some (.long (q7.2 157 3)), none, some (.long (q7.2 157 4)), none, some (.int v6), some (.int (v7 + (1 : Int32)))]) (st2 := []) (g2 := q7) cdE_208 rfl ?_
          cases h
          exact ev_wk (L := [some (.ref 157), some (.int v6), some (.long (q7.2 157 3)), none, some (.long (q7.2 157 4)), none, some (.int v6), some (.int (v7 + (1 : Int32)))]) hb ⟨rfl, ⟨rfl, ⟨rfl, ⟨rfl, ⟨rfl, ⟨rfl, trivial⟩⟩⟩⟩⟩⟩
        · rw [if_neg hc10] at h
          refine ev_zff rfl (cn_f hc10) ?_
          refine ev_rn (n := 3) (i2 := 21) (L2 := [some (.ref 157), some (.int v1), some (.long v2), none, some (.long v4), none, some (.int v6), some (.int (v7 + (1 : Int32)))]) (st2 := []) (g2 := q7) cdE_208 rfl ?_
          cases h
          exact ev_wk (L := [some (.ref 157), some (.int v1), some (.long v2), none, some (.long v4), none, some (.int v6), some (.int (v7 + (1 : Int32)))]) hb ⟨rfl, ⟨rfl, ⟨rfl, ⟨rfl, ⟨rfl, ⟨rfl, trivial⟩⟩⟩⟩⟩⟩
    · rw [if_neg hi5] at h
      cases h
def b_Mo_weakest_13  (v1 : Int32) (v2 : Int64) (v4 : Int64) (v6 : Int32) (g : M2) : Option ((Int32 × Int64 × Int64 × Int32 × M2) ⊕ (Int32 × M2)) := (if (g.1 160 1) ≤ v6 then some (.inr (v1, g)) else ((lp (fun s => b_Mo_weakest_21 v6 s.1 s.2.1 s.2.2.1 s.2.2.2.1 s.2.2.2.2) 5000 (v1, v2, v4, (0 : Int32), g)).bind fun e11 => some (.inl (e11.1, e11.2.1, e11.2.2.1, (v6 + (1 : Int32)), e11.2.2.2))))
theorem tb_Mo_weakest_13 {Lx : Nat}   (v1 : Int32) (v2 : Int64) (v4 : Int64) (v6 : Int32) (g : M2) {b : (Int32 × Int64 × Int64 × Int32 × M2) ⊕ (Int32 × M2)} {o : Option Value × M2} (h : b_Mo_weakest_13 v1 v2 v4 v6 g = some b) (hb : Sum.elim (fun s => Ev Lx 208 cd_208 13 [some (.ref 157), some (.int s.1), some (.long s.2.1), none, some (.long s.2.2.1), none, some (.int s.2.2.2.1)] [] s.2.2.2.2 o) (fun e => Ev Lx 208 cd_208 65 [none, some (.int e.1)] [] e.2 o) b) : Ev Lx 208 cd_208 13 [some (.ref 157), some (.int v1), some (.long v2), none, some (.long v4), none, some (.int v6)] [] g o := by
  unfold b_Mo_weakest_13 at h
  refine ev_rn (n := 4) (i2 := 17) (L2 := [some (.ref 157), some (.int v1), some (.long v2), none, some (.long v4), none, some (.int v6)]) (st2 := [.int (1 : Int32), .ref 160, .int v6]) (g2 := g) cdE_208 rfl ?_
  refine ev_iaload (v := .int (g.1 160 1)) rfl (kd_of (show S0[160]? = some (100, 19, List.replicate 19 none) from rfl)) (by decide) ⟨by decide, by decide⟩ rfl ?_
  by_cases hc3 : (g.1 160 1) ≤ v6
  · rw [if_pos hc3] at h
    refine ev_ift cdE_208 rfl (cn_t hc3) ?_
    cases h
    exact ev_wk (L := [none, some (.int v1)]) hb ⟨rfl, trivial⟩
  · rw [if_neg hc3] at h
    refine ev_iff rfl (cn_f hc3) ?_
    refine ev_rn (n := 2) (i2 := 21) (L2 := [some (.ref 157), some (.int v1), some (.long v2), none, some (.long v4), none, some (.int v6), some (.int (0 : Int32))]) (st2 := []) (g2 := g) cdE_208 rfl ?_
    obtain ⟨e11, he11, h⟩ := Option.bind_eq_some_iff.mp h
    have hX12 : Ev Lx 208 cd_208 63 [some (.ref 157), some (.int e11.1), some (.long e11.2.1), none, some (.long e11.2.2.1), none, some (.int v6)] [] e11.2.2.2 o := by
      refine ev_rn (n := 2) (i2 := 13) (L2 := [some (.ref 157), some (.int e11.1), some (.long e11.2.1), none, some (.long e11.2.2.1), none, some (.int (v6 + (1 : Int32)))]) (st2 := []) (g2 := e11.2.2.2) cdE_208 rfl ?_
      cases h
      exact ev_wk (L := [some (.ref 157), some (.int e11.1), some (.long e11.2.1), none, some (.long e11.2.2.1), none, some (.int (v6 + (1 : Int32)))]) hb ⟨rfl, ⟨rfl, ⟨rfl, ⟨rfl, ⟨rfl, trivial⟩⟩⟩⟩⟩
    exact ev_wk (L := [some (.ref 157), some (.int v1), some (.long v2), none, some (.long v4), none, some (.int v6), some (.int (0 : Int32))]) (lp_ind (P := (fun (s : (Int32 × Int64 × Int64 × Int32 × M2)) => Ev Lx 208 cd_208 21 [some (.ref 157), some (.int s.1), some (.long s.2.1), none, some (.long s.2.2.1), none, some (.int v6), some (.int s.2.2.2.1)] [] s.2.2.2.2 o)) (fun s s2 hs hP => tb_Mo_weakest_21 v6  s.1 s.2.1 s.2.2.1 s.2.2.2.1 s.2.2.2.2 (b := .inl s2) hs hP) (fun s hs => tb_Mo_weakest_21 v6  s.1 s.2.1 s.2.2.1 s.2.2.2.1 s.2.2.2.2 (b := .inr e11) hs hX12) _ _ he11) ⟨rfl, ⟨rfl, ⟨rfl, ⟨rfl, ⟨rfl, ⟨rfl, trivial⟩⟩⟩⟩⟩⟩
def f_Mo_weakest  (g : M2) : Option (Int32 × M2) := ((f_Mo_canNow g).bind fun q1 => (if q1.1 = 0 then some ((-2 : Int32), q1.2) else ((lp (fun s => b_Mo_weakest_13  s.1 s.2.1 s.2.2.1 s.2.2.2.1 s.2.2.2.2) 5000 ((-1 : Int32), (0 : Int64), (0 : Int64), (0 : Int32), q1.2)).bind fun e13 => some (e13.1, e13.2))))
theorem e_Mo_weakest {Lx : Nat}   (g : M2) {b : (Int32 × M2)} (h : f_Mo_weakest  g = some b) : Ev Lx 208 cd_208 0 [some (.ref 157)] [] g (some (.int b.1), b.2) := by
  unfold f_Mo_weakest at h
  refine ev_rn (n := 1) (i2 := 1) (L2 := [some (.ref 157)]) (st2 := [.ref 157]) (g2 := g) cdE_208 rfl ?_
  obtain ⟨q1, hq1, h⟩ := Option.bind_eq_some_iff.mp h
  refine ev_call rfl cdE_118 rfl rfl rfl (e_Mo_canNow   g hq1) ?_
  by_cases hc2 : q1.1 = 0
  · rw [if_pos hc2] at h
    refine ev_zff rfl (cn_f (fun q => q hc2)) ?_
    refine ev_rn (n := 1) (i2 := 4) (L2 := [some (.ref 157)]) (st2 := [.int (-2 : Int32)]) (g2 := q1.2) cdE_208 rfl ?_
    cases h
    exact ev_ret rfl rfl
  · rw [if_neg hc2] at h
    refine ev_zft cdE_208 rfl (cn_t hc2) ?_
    refine ev_rn (n := 4) (i2 := 9) (L2 := [some (.ref 157), some (.int (-1 : Int32)), some (.long (0 : Int64)), none]) (st2 := []) (g2 := q1.2) cdE_208 rfl ?_
    refine ev_rn (n := 2) (i2 := 11) (L2 := [some (.ref 157), some (.int (-1 : Int32)), some (.long (0 : Int64)), none, some (.long (0 : Int64)), none]) (st2 := []) (g2 := q1.2) cdE_208 rfl ?_
    refine ev_rn (n := 2) (i2 := 13) (L2 := [some (.ref 157), some (.int (-1 : Int32)), some (.long (0 : Int64)), none, some (.long (0 : Int64)), none, some (.int (0 : Int32))]) (st2 := []) (g2 := q1.2) cdE_208 rfl ?_
    obtain ⟨e13, he13, h⟩ := Option.bind_eq_some_iff.mp h
    have hX14 : Ev Lx 208 cd_208 65 [none, some (.int e13.1)] [] e13.2 (some (.int b.1), b.2) := by
      refine ev_rn (n := 1) (i2 := 66) (L2 := [none, some (.int e13.1)]) (st2 := [.int e13.1]) (g2 := e13.2) cdE_208 rfl ?_
      cases h
      exact ev_ret rfl rfl
    exact ev_wk (L := [some (.ref 157), some (.int (-1 : Int32)), some (.long (0 : Int64)), none, some (.long (0 : Int64)), none, some (.int (0 : Int32))]) (lp_ind (P := (fun (s : (Int32 × Int64 × Int64 × Int32 × M2)) => Ev Lx 208 cd_208 13 [some (.ref 157), some (.int s.1), some (.long s.2.1), none, some (.long s.2.2.1), none, some (.int s.2.2.2.1)] [] s.2.2.2.2 (some (.int b.1), b.2))) (fun s s2 hs hP => tb_Mo_weakest_13   s.1 s.2.1 s.2.2.1 s.2.2.2.1 s.2.2.2.2 (b := .inl s2) hs hP) (fun s hs => tb_Mo_weakest_13   s.1 s.2.1 s.2.2.1 s.2.2.2.1 s.2.2.2.2 (b := .inr e13) hs hX14) _ _ he13) ⟨rfl, ⟨rfl, ⟨rfl, ⟨rfl, ⟨rfl, trivial⟩⟩⟩⟩⟩
def f_Ma_floorDiv (p0 : Int64) (p1 : Int64) (g : M2) : Option (Int64) := (if p1 = 0 then none else (if (0 : Int64) ≤ (p0 ^^^ p1) then some (p0 / p1) else (if ((p0 / p1) * p1) = p0 then some (p0 / p1) else some ((p0 / p1) - (1 : Int64)))))
theorem e_Ma_floorDiv {Lx : Nat} (p0 : Int64) (p1 : Int64)  (g : M2) {b : Int64} (h : f_Ma_floorDiv p0 p1 g = some b) : Ev Lx 209 cd_209 0 [some (.long p0), none, some (.long p1), none] [] g (some (.long b), g) := by
  unfold f_Ma_floorDiv at h
  refine ev_rn (n := 2) (i2 := 2) (L2 := [some (.long p0), none, some (.long p1), none]) (st2 := [.long p1, .long p0]) (g2 := g) cdE_209 rfl ?_
  by_cases hd3 : p1 = 0
  · rw [if_pos hd3] at h
    cases h
  · rw [if_neg hd3] at h
    refine ev_ldiv rfl hd3 ?_
    refine ev_rn (n := 1) (i2 := 4) (L2 := [some (.long p0), none, some (.long p1), none, some (.long (p0 / p1)), none]) (st2 := []) (g2 := g) cdE_209 rfl ?_
    refine ev_rn (n := 5) (i2 := 9) (L2 := [some (.long p0), none, some (.long p1), none, some (.long (p0 / p1)), none]) (st2 := [.int (lg_cmp (p0 ^^^ p1) (0 : Int64))]) (g2 := g) cdE_209 rfl ?_
    by_cases hc1 : (0 : Int64) ≤ (p0 ^^^ p1)
    · rw [if_pos hc1] at h
      refine ev_zft cdE_209 rfl (lc_ge_t hc1) ?_
      refine ev_rn (n := 1) (i2 := 21) (L2 := [some (.long p0), none, some (.long p1), none, some (.long (p0 / p1)), none]) (st2 := [.long (p0 / p1)]) (g2 := g) cdE_209 rfl ?_
      cases h
      exact ev_ret rfl rfl
    · rw [if_neg hc1] at h
      refine ev_zff rfl (lc_ge_f hc1) ?_
      refine ev_rn (n := 5) (i2 := 15) (L2 := [some (.long p0), none, some (.long p1), none, some (.long (p0 / p1)), none]) (st2 := [.int (lg_cmp ((p0 / p1) * p1) p0)]) (g2 := g) cdE_209 rfl ?_
      by_cases hc2 : ((p0 / p1) * p1) = p0
      · rw [if_pos hc2] at h
        refine ev_zft cdE_209 rfl (lc_eq_t hc2) ?_
        refine ev_rn (n := 1) (i2 := 21) (L2 := [some (.long p0), none, some (.long p1), none, some (.long (p0 / p1)), none]) (st2 := [.long (p0 / p1)]) (g2 := g) cdE_209 rfl ?_
        cases h
        exact ev_ret rfl rfl
      · rw [if_neg hc2] at h
        refine ev_zff rfl (lc_eq_f hc2) ?_
        refine ev_rn (n := 3) (i2 := 19) (L2 := [some (.long p0), none, some (.long p1), none, some (.long (p0 / p1)), none]) (st2 := [.long ((p0 / p1) - (1 : Int64))]) (g2 := g) cdE_209 rfl ?_
        cases h
        exact ev_ret rfl rfl
def f_Cu_nearestWhole (p0 : Int64) (p1 : Int64) (g : M2) : Option (Int64) := (if p1 = (0 : Int64) then some (0 : Int64) else ((f_Ma_floorDiv (((2 : Int64) * p0) + p1) ((2 : Int64) * p1) g).bind fun q2 => some q2))
theorem e_Cu_nearestWhole {Lx : Nat} (p0 : Int64) (p1 : Int64)  (g : M2) {b : Int64} (h : f_Cu_nearestWhole p0 p1 g = some b) : Ev Lx 210 cd_210 0 [some (.long p0), none, some (.long p1), none] [] g (some (.long b), g) := by
  unfold f_Cu_nearestWhole at h
  refine ev_rn (n := 3) (i2 := 3) (L2 := [some (.long p0), none, some (.long p1), none]) (st2 := [.int (lg_cmp p1 (0 : Int64))]) (g2 := g) cdE_210 rfl ?_
  by_cases hc1 : p1 = (0 : Int64)
  · rw [if_pos hc1] at h
    refine ev_zff rfl (lc_ne_f hc1) ?_
    refine ev_rn (n := 2) (i2 := 15) (L2 := [some (.long p0), none, some (.long p1), none]) (st2 := [.long (0 : Int64)]) (g2 := g) cdE_210 rfl ?_
    cases h
    exact ev_ret rfl rfl
  · rw [if_neg hc1] at h
    refine ev_zft cdE_210 rfl (lc_ne_t hc1) ?_
    refine ev_rn (n := 8) (i2 := 14) (L2 := [some (.long p0), none, some (.long p1), none]) (st2 := [.long ((2 : Int64) * p1), .long (((2 : Int64) * p0) + p1)]) (g2 := g) cdE_210 rfl ?_
    obtain ⟨q2, hq2, h⟩ := Option.bind_eq_some_iff.mp h
    refine ev_call rfl cdE_209 rfl rfl rfl (e_Ma_floorDiv (((2 : Int64) * p0) + p1) ((2 : Int64) * p1)  g hq2) ?_
    cases h
    exact ev_ret rfl rfl
def f_Nu_setParts (a0 : Nat) (p0 : Int64) (p1 : Int64) (p2 : Int64) (p3 : Int64) (g : M2) : Option (M2) := (bd (uJ g a0 0 p0) fun g1 => (bd (uJ g1 a0 1 p1) fun g2 => (bd (uJ g2 a0 2 p2) fun g3 => (bd (uJ g3 a0 3 p3) fun g4 => some g4))))
theorem e_Nu_setParts {Lx : Nat} (a0 : Nat) (p0 : Int64) (p1 : Int64) (p2 : Int64) (p3 : Int64) (ha0 : IsNum a0) (g : M2) {b : M2} (h : f_Nu_setParts a0 p0 p1 p2 p3 g = some b) : Ev Lx 211 cd_211 0 [some (.ref a0), some (.long p0), none, some (.long p1), none, some (.long p2), none, some (.long p3), none] [] g (none, b) := by
  unfold f_Nu_setParts at h
  refine ev_rn (n := 2) (i2 := 2) (L2 := [some (.ref a0), some (.long p0), none, some (.long p1), none, some (.long p2), none, some (.long p3), none]) (st2 := [.long p0, .ref a0]) (g2 := g) cdE_211 rfl ?_
  refine bd_elim h (fun g1 hg1 h => ?_)
  refine ev_pf (g2 := g1) rfl ha0 (by decide) (by rw [hg1] <;> rfl) ?_
  refine ev_rn (n := 2) (i2 := 5) (L2 := [some (.ref a0), some (.long p0), none, some (.long p1), none, some (.long p2), none, some (.long p3), none]) (st2 := [.long p1, .ref a0]) (g2 := g1) cdE_211 rfl ?_
  refine bd_elim h (fun g2 hg2 h => ?_)
  refine ev_pf (g2 := g2) rfl ha0 (by decide) (by rw [hg2] <;> rfl) ?_
  refine ev_rn (n := 2) (i2 := 8) (L2 := [some (.ref a0), some (.long p0), none, some (.long p1), none, some (.long p2), none, some (.long p3), none]) (st2 := [.long p2, .ref a0]) (g2 := g2) cdE_211 rfl ?_
  refine bd_elim h (fun g3 hg3 h => ?_)
  refine ev_pf (g2 := g3) rfl ha0 (by decide) (by rw [hg3] <;> rfl) ?_
  refine ev_rn (n := 2) (i2 := 11) (L2 := [some (.ref a0), some (.long p0), none, some (.long p1), none, some (.long p2), none, some (.long p3), none]) (st2 := [.long p3, .ref a0]) (g2 := g3) cdE_211 rfl ?_
  refine bd_elim h (fun g4 hg4 h => ?_)
  refine ev_pf (g2 := g4) rfl ha0 (by decide) (by rw [hg4] <;> rfl) ?_
  cases h
  exact ev_ret rfl rfl
def b_Cu_roundAll_2 (v1 : Nat) (v2 : Int32) (v3 : Int32) (g : M2) : Option ((Int32 × M2) ⊕ M2) := (if (g.1 (v1 + 1) 2) ≤ v3 then some (.inr g) else (if inb v3 5 then (if inb v3 5 then ((f_Cu_nearestWhole ((g.2 ((v1 + 43) + 1 + v3.toNatClampNeg) 0) * v2.toInt64) (g.2 v1 16) g).bind fun q4 => ((f_Cu_nearestWhole ((g.2 ((v1 + 43) + 1 + v3.toNatClampNeg) 1) * v2.toInt64) (g.2 v1 16) g).bind fun q5 => ((f_Cu_nearestWhole ((g.2 ((v1 + 43) + 1 + v3.toNatClampNeg) 2) * v2.toInt64) (g.2 v1 16) g).bind fun q6 => ((f_Cu_nearestWhole ((g.2 ((v1 + 43) + 1 + v3.toNatClampNeg) 3) * v2.toInt64) (g.2 v1 16) g).bind fun q7 => ((f_Nu_setParts (139 + 1 + v3.toNatClampNeg) q4 q5 q6 q7 g).bind fun q8 => some (.inl ((v3 + (1 : Int32)), q8))))))) else none) else none))
theorem tb_Cu_roundAll_2 {Lx : Nat} (v1 : Nat) (v2 : Int32) (hv1 : IsSol v1) (v3 : Int32) (g : M2) {b : (Int32 × M2) ⊕ M2} {o : Option Value × M2} (h : b_Cu_roundAll_2 v1 v2 v3 g = some b) (hb : Sum.elim (fun s => Ev Lx 212 cd_212 2 [some (.ref 138), some (.ref v1), some (.int v2), some (.int s.1)] [] s.2 o) (fun e => Ev Lx 212 cd_212 51 [] [] e o) b) : Ev Lx 212 cd_212 2 [some (.ref 138), some (.ref v1), some (.int v2), some (.int v3)] [] g o := by
  unfold b_Cu_roundAll_2 at h
  refine ev_rn (n := 2) (i2 := 4) (L2 := [some (.ref 138), some (.ref v1), some (.int v2), some (.int v3)]) (st2 := [.ref v1, .int v3]) (g2 := g) cdE_212 rfl ?_
  refine ev_gf (v := .ref (v1 + 1)) rfl (so_at hv1) (by decide) rfl ?_
  refine ev_gf (v := .int (g.1 (v1 + 1) 2)) rfl (pl_at (so_1 hv1)) (by decide) rfl ?_
  by_cases hc1 : (g.1 (v1 + 1) 2) ≤ v3
  · rw [if_pos hc1] at h
    refine ev_ift cdE_212 rfl (cn_t hc1) ?_
    cases h
    exact ev_wk (L := []) hb trivial
  · rw [if_neg hc1] at h
    refine ev_iff rfl (cn_f hc1) ?_
    refine ev_rn (n := 1) (i2 := 8) (L2 := [some (.ref 138), some (.ref v1), some (.int v2), some (.int v3)]) (st2 := [.ref v1]) (g2 := g) cdE_212 rfl ?_
    refine ev_gf (v := .ref (v1 + 43)) rfl (so_at hv1) (by decide) rfl ?_
    refine ev_rn (n := 1) (i2 := 10) (L2 := [some (.ref 138), some (.ref v1), some (.int v2), some (.int v3)]) (st2 := [.int v3, .ref (v1 + 43)]) (g2 := g) cdE_212 rfl ?_
    by_cases hi2 : inb v3 5
    · rw [if_pos hi2] at h
      refine ev_aaload (v := .ref ((v1 + 43) + 1 + v3.toNatClampNeg)) rfl (kd_of (na_at (so_43 hv1))) (by decide) hi2 (na_rf (w := (v1 + 43)) hi2.2) ?_
      refine ev_rn (n := 4) (i2 := 15) (L2 := [some (.ref 138), some (.ref v1), some (.int v2), some (.int v3), some (.ref ((v1 + 43) + 1 + v3.toNatClampNeg))]) (st2 := [.int v3, .ref 139]) (g2 := g) cdE_212 rfl ?_
      by_cases hi3 : inb v3 5
      · rw [if_pos hi3] at h
        refine ev_aaload (v := .ref (139 + 1 + v3.toNatClampNeg)) rfl (kd_of (na_at (na_139))) (by decide) hi3 (na_rf (w := 139) hi3.2) ?_
        refine ev_rn (n := 1) (i2 := 17) (L2 := [some (.ref 138), some (.ref v1), some (.int v2), some (.int v3), some (.ref ((v1 + 43) + 1 + v3.toNatClampNeg))]) (st2 := [.ref ((v1 + 43) + 1 + v3.toNatClampNeg), .ref (139 + 1 + v3.toNatClampNeg)]) (g2 := g) cdE_212 rfl ?_
        refine ev_gf (v := .long (g.2 ((v1 + 43) + 1 + v3.toNatClampNeg) 0)) rfl (na_el (so_43 hv1) hi2.2) (by decide) rfl ?_
        refine ev_rn (n := 4) (i2 := 22) (L2 := [some (.ref 138), some (.ref v1), some (.int v2), some (.int v3), some (.ref ((v1 + 43) + 1 + v3.toNatClampNeg))]) (st2 := [.ref v1, .long ((g.2 ((v1 + 43) + 1 + v3.toNatClampNeg) 0) * v2.toInt64), .ref (139 + 1 + v3.toNatClampNeg)]) (g2 := g) cdE_212 rfl ?_
        refine ev_gf (v := .long (g.2 v1 16)) rfl (so_at hv1) (by decide) rfl ?_
        obtain ⟨q4, hq4, h⟩ := Option.bind_eq_some_iff.mp h
        refine ev_call rfl cdE_210 rfl rfl rfl (e_Cu_nearestWhole ((g.2 ((v1 + 43) + 1 + v3.toNatClampNeg) 0) * v2.toInt64) (g.2 v1 16)  g hq4) ?_
        refine ev_rn (n := 1) (i2 := 25) (L2 := [some (.ref 138), some (.ref v1), some (.int v2), some (.int v3), some (.ref ((v1 + 43) + 1 + v3.toNatClampNeg))]) (st2 := [.ref ((v1 + 43) + 1 + v3.toNatClampNeg), .long q4, .ref (139 + 1 + v3.toNatClampNeg)]) (g2 := g) cdE_212 rfl ?_
        refine ev_gf (v := .long (g.2 ((v1 + 43) + 1 + v3.toNatClampNeg) 1)) rfl (na_el (so_43 hv1) hi2.2) (by decide) rfl ?_
        refine ev_rn (n := 4) (i2 := 30) (L2 := [some (.ref 138), some (.ref v1), some (.int v2), some (.int v3), some (.ref ((v1 + 43) + 1 + v3.toNatClampNeg))]) (st2 := [.ref v1, .long ((g.2 ((v1 + 43) + 1 + v3.toNatClampNeg) 1) * v2.toInt64), .long q4, .ref (139 + 1 + v3.toNatClampNeg)]) (g2 := g) cdE_212 rfl ?_
        refine ev_gf (v := .long (g.2 v1 16)) rfl (so_at hv1) (by decide) rfl ?_
        obtain ⟨q5, hq5, h⟩ := Option.bind_eq_some_iff.mp h
        refine ev_call rfl cdE_210 rfl rfl rfl (e_Cu_nearestWhole ((g.2 ((v1 + 43) + 1 + v3.toNatClampNeg) 1) * v2.toInt64) (g.2 v1 16)  g hq5) ?_
        refine ev_rn (n := 1) (i2 := 33) (L2 := [some (.ref 138), some (.ref v1), some (.int v2), some (.int v3), some (.ref ((v1 + 43) + 1 + v3.toNatClampNeg))]) (st2 := [.ref ((v1 + 43) + 1 + v3.toNatClampNeg), .long q5, .long q4, .ref (139 + 1 + v3.toNatClampNeg)]) (g2 := g) cdE_212 rfl ?_
        refine ev_gf (v := .long (g.2 ((v1 + 43) + 1 + v3.toNatClampNeg) 2)) rfl (na_el (so_43 hv1) hi2.2) (by decide) rfl ?_
        refine ev_rn (n := 4) (i2 := 38) (L2 := [some (.ref 138), some (.ref v1), some (.int v2), some (.int v3), some (.ref ((v1 + 43) + 1 + v3.toNatClampNeg))]) (st2 := [.ref v1, .long ((g.2 ((v1 + 43) + 1 + v3.toNatClampNeg) 2) * v2.toInt64), .long q5, .long q4, .ref (139 + 1 + v3.toNatClampNeg)]) (g2 := g) cdE_212 rfl ?_
        refine ev_gf (v := .long (g.2 v1 16)) rfl (so_at hv1) (by decide) rfl ?_
        obtain ⟨q6, hq6, h⟩ := Option.bind_eq_some_iff.mp h
        refine ev_call rfl cdE_210 rfl rfl rfl (e_Cu_nearestWhole ((g.2 ((v1 + 43) + 1 + v3.toNatClampNeg) 2) * v2.toInt64) (g.2 v1 16)  g hq6) ?_
        refine ev_rn (n := 1) (i2 := 41) (L2 := [some (.ref 138), some (.ref v1), some (.int v2), some (.int v3), some (.ref ((v1 + 43) + 1 + v3.toNatClampNeg))]) (st2 := [.ref ((v1 + 43) + 1 + v3.toNatClampNeg), .long q6, .long q5, .long q4, .ref (139 + 1 + v3.toNatClampNeg)]) (g2 := g) cdE_212 rfl ?_
        refine ev_gf (v := .long (g.2 ((v1 + 43) + 1 + v3.toNatClampNeg) 3)) rfl (na_el (so_43 hv1) hi2.2) (by decide) rfl ?_
        refine ev_rn (n := 4) (i2 := 46) (L2 := [some (.ref 138), some (.ref v1), some (.int v2), some (.int v3), some (.ref ((v1 + 43) + 1 + v3.toNatClampNeg))]) (st2 := [.ref v1, .long ((g.2 ((v1 + 43) + 1 + v3.toNatClampNeg) 3) * v2.toInt64), .long q6, .long q5, .long q4, .ref (139 + 1 + v3.toNatClampNeg)]) (g2 := g) cdE_212 rfl ?_
        refine ev_gf (v := .long (g.2 v1 16)) rfl (so_at hv1) (by decide) rfl ?_
        obtain ⟨q7, hq7, h⟩ := Option.bind_eq_some_iff.mp h
        refine ev_call rfl cdE_210 rfl rfl rfl (e_Cu_nearestWhole ((g.2 ((v1 + 43) + 1 + v3.toNatClampNeg) 3) * v2.toInt64) (g.2 v1 16)  g hq7) ?_
        obtain ⟨q8, hq8, h⟩ := Option.bind_eq_some_iff.mp h
        refine ev_call rfl cdE_211 (cokV rfl rfl (na_el (na_139) hi3.2) rfl) rfl rfl (e_Nu_setParts (139 + 1 + v3.toNatClampNeg) q4 q5 q6 q7 (na_el (na_139) hi3.2) g hq8) ?_
        refine ev_rn (n := 2) (i2 := 2) (L2 := [some (.ref 138), some (.ref v1), some (.int v2), some (.int (v3 + (1 : Int32))), some (.ref ((v1 + 43) + 1 + v3.toNatClampNeg))]) (st2 := []) (g2 := q8) cdE_212 rfl ?_
        cases h
        exact ev_wk (L := [some (.ref 138), some (.ref v1), some (.int v2), some (.int (v3 + (1 : Int32)))]) hb ⟨rfl, ⟨rfl, ⟨rfl, ⟨rfl, trivial⟩⟩⟩⟩
      · rw [if_neg hi3] at h
        cases h
    · rw [if_neg hi2] at h
      cases h
def f_Cu_roundAll (p0 : Nat) (p1 : Int32) (g : M2) : Option (M2) := ((lp (fun s => b_Cu_roundAll_2 p0 p1 s.1 s.2) 5000 ((0 : Int32), g)).bind fun e9 => some e9)
theorem e_Cu_roundAll {Lx : Nat} (p0 : Nat) (p1 : Int32) (hp0 : IsSol p0) (g : M2) {b : M2} (h : f_Cu_roundAll p0 p1 g = some b) : Ev Lx 212 cd_212 0 [some (.ref 138), some (.ref p0), some (.int p1)] [] g (none, b) := by
  unfold f_Cu_roundAll at h
  refine ev_rn (n := 2) (i2 := 2) (L2 := [some (.ref 138), some (.ref p0), some (.int p1), some (.int (0 : Int32))]) (st2 := []) (g2 := g) cdE_212 rfl ?_
  obtain ⟨e9, he9, h⟩ := Option.bind_eq_some_iff.mp h
  have hX10 : Ev Lx 212 cd_212 51 [] [] e9 (none, b) := by
    cases h
    exact ev_ret rfl rfl
  exact ev_wk (L := [some (.ref 138), some (.ref p0), some (.int p1), some (.int (0 : Int32))]) (lp_ind (P := (fun (s : (Int32 × M2)) => Ev Lx 212 cd_212 2 [some (.ref 138), some (.ref p0), some (.int p1), some (.int s.1)] [] s.2 (none, b))) (fun s s2 hs hP => tb_Cu_roundAll_2 p0 p1 hp0 s.1 s.2 (b := .inl s2) hs hP) (fun s hs => tb_Cu_roundAll_2 p0 p1 hp0 s.1 s.2 (b := .inr e9) hs hX10) _ _ he9) ⟨rfl, ⟨rfl, ⟨rfl, ⟨rfl, trivial⟩⟩⟩⟩
def f_Da_cut (p0 : Int32) (p1 : Int32) (g : M2) : Option (Int64 × M2) := ((f_Da_refresh g).bind fun q1 => (if (q1.1 6 13) = 0 then some ((-9223372036854775808 : Int64), q1) else (if (f_Pl_has 7 p0 q1) = 0 then some ((-9223372036854775808 : Int64), q1) else (if (f_Da_isAmong p1 (4 : Int32) q1) = 0 then some ((-9223372036854775808 : Int64), q1) else ((f_Cu_roundAll 6 (q1.1 7 6) q1).bind fun q5 => (if inb p0 5 then some ((f_Nu_part (139 + 1 + p0.toNatClampNeg) p1 q5), q5) else none))))))
theorem e_Da_cut {Lx : Nat} (p0 : Int32) (p1 : Int32)  (g : M2) {b : (Int64 × M2)} (h : f_Da_cut p0 p1 g = some b) : Ev Lx 213 cd_213 0 [some (.ref 0), some (.int p0), some (.int p1)] [] g (some (.long b.1), b.2) := by
  unfold f_Da_cut at h
  refine ev_rn (n := 1) (i2 := 1) (L2 := [some (.ref 0), some (.int p0), some (.int p1)]) (st2 := [.ref 0]) (g2 := g) cdE_213 rfl ?_
  obtain ⟨q1, hq1, h⟩ := Option.bind_eq_some_iff.mp h
  refine ev_call rfl cdE_100 rfl rfl rfl (e_Da_refresh   g hq1) ?_
  refine ev_rn (n := 3) (i2 := 5) (L2 := [some (.ref 0), some (.int p0), some (.int p1)]) (st2 := [.int (q1.1 6 13)]) (g2 := q1) cdE_213 rfl ?_
  by_cases hc2 : (q1.1 6 13) = 0
  · rw [if_pos hc2] at h
    refine ev_zft cdE_213 rfl (cn_t hc2) ?_
    refine ev_rn (n := 1) (i2 := 17) (L2 := [some (.ref 0), some (.int p0), some (.int p1)]) (st2 := [.long (-9223372036854775808 : Int64)]) (g2 := q1) cdE_213 rfl ?_
    cases h
    exact ev_ret rfl rfl
  · rw [if_neg hc2] at h
    refine ev_zff rfl (cn_f hc2) ?_
    refine ev_rn (n := 4) (i2 := 10) (L2 := [some (.ref 0), some (.int p0), some (.int p1)]) (st2 := [.int p0, .ref 7]) (g2 := q1) cdE_213 rfl ?_
    refine ev_call rfl cdE_66 rfl rfl rfl (e_Pl_has 7 p0 (by decide) q1 rfl) ?_
    by_cases hc3 : (f_Pl_has 7 p0 q1) = 0
    · rw [if_pos hc3] at h
      refine ev_zft cdE_213 rfl (cn_t hc3) ?_
      refine ev_rn (n := 1) (i2 := 17) (L2 := [some (.ref 0), some (.int p0), some (.int p1)]) (st2 := [.long (-9223372036854775808 : Int64)]) (g2 := q1) cdE_213 rfl ?_
      cases h
      exact ev_ret rfl rfl
    · rw [if_neg hc3] at h
      refine ev_zff rfl (cn_f hc3) ?_
      refine ev_rn (n := 2) (i2 := 14) (L2 := [some (.ref 0), some (.int p0), some (.int p1)]) (st2 := [.int (4 : Int32), .int p1]) (g2 := q1) cdE_213 rfl ?_
      refine ev_call rfl cdE_65 rfl rfl rfl (e_Da_isAmong p1 (4 : Int32)  q1 rfl) ?_
      by_cases hc4 : (f_Da_isAmong p1 (4 : Int32) q1) = 0
      · rw [if_pos hc4] at h
        refine ev_zff rfl (cn_f (fun q => q hc4)) ?_
        refine ev_rn (n := 1) (i2 := 17) (L2 := [some (.ref 0), some (.int p0), some (.int p1)]) (st2 := [.long (-9223372036854775808 : Int64)]) (g2 := q1) cdE_213 rfl ?_
        cases h
        exact ev_ret rfl rfl
      · rw [if_neg hc4] at h
        refine ev_zft cdE_213 rfl (cn_t hc4) ?_
        refine ev_rn (n := 8) (i2 := 26) (L2 := [some (.ref 0), some (.int p0), some (.int p1)]) (st2 := [.int (q1.1 7 6), .ref 6, .ref 138]) (g2 := q1) cdE_213 rfl ?_
        obtain ⟨q5, hq5, h⟩ := Option.bind_eq_some_iff.mp h
        refine ev_call rfl cdE_212 rfl rfl rfl (e_Cu_roundAll 6 (q1.1 7 6) (by decide) q1 hq5) ?_
        refine ev_rn (n := 4) (i2 := 31) (L2 := [some (.ref 0), some (.int p0), some (.int p1)]) (st2 := [.int p0, .ref 139]) (g2 := q5) cdE_213 rfl ?_
        by_cases hi6 : inb p0 5
        · rw [if_pos hi6] at h
          refine ev_aaload (v := .ref (139 + 1 + p0.toNatClampNeg)) rfl (kd_of (na_at (na_139))) (by decide) hi6 (na_rf (w := 139) hi6.2) ?_
          refine ev_rn (n := 1) (i2 := 33) (L2 := [some (.ref 0), some (.int p0), some (.int p1)]) (st2 := [.int p1, .ref (139 + 1 + p0.toNatClampNeg)]) (g2 := q5) cdE_213 rfl ?_
          refine ev_call rfl cdE_124 (cokV rfl rfl (na_el (na_139) hi6.2) rfl) rfl rfl (e_Nu_part (139 + 1 + p0.toNatClampNeg) p1 (na_el (na_139) hi6.2) q5 rfl) ?_
          cases h
          exact ev_ret rfl rfl
        · rw [if_neg hi6] at h
          cases h
def b_Mo_laysCuts_15 (v1 : Int32) (v2 : Int32) (v3 : Int32) (g : M2) : Option ((Int32 × M2) ⊕ M2) := (if (4 : Int32) ≤ v3 then some (.inr g) else (if inb v2 5 then (if (g.1 166 v2.toNatClampNeg) = (-1 : Int32) then some (.inr g) else (if inb v2 5 then ((f_Mo_part ((62 : Int32) + (g.1 166 v2.toNatClampNeg)) v3 g).bind fun q7 => ((f_Ma_floorDiv ((((2 : Int64) * v1.toInt64) * q7) + (g.2 157 16)) ((2 : Int64) * (g.2 157 16)) g).bind fun q8 => (if inb (((4 : Int32) * ((82 : Int32) + v2)) + v3) 352 then (bd (uJ g 158 (((4 : Int32) * ((82 : Int32) + v2)) + v3).toNatClampNeg q8) fun g9 => some (.inl ((v3 + (1 : Int32)), g9))) else none))) else none)) else none))
theorem tb_Mo_laysCuts_15 {Lx : Nat} (v1 : Int32) (v2 : Int32)  (v3 : Int32) (g : M2) {b : (Int32 × M2) ⊕ M2} {o : Option Value × M2} (h : b_Mo_laysCuts_15 v1 v2 v3 g = some b) (hb : Sum.elim (fun s => Ev Lx 214 cd_214 15 [some (.ref 157), some (.int v1), some (.int v2), some (.int s.1)] [] s.2 o) (fun e => Ev Lx 214 cd_214 58 [some (.ref 157), some (.int v1), some (.int v2)] [] e o) b) : Ev Lx 214 cd_214 15 [some (.ref 157), some (.int v1), some (.int v2), some (.int v3)] [] g o := by
  unfold b_Mo_laysCuts_15 at h
  refine ev_rn (n := 2) (i2 := 17) (L2 := [some (.ref 157), some (.int v1), some (.int v2), some (.int v3)]) (st2 := [.int (4 : Int32), .int v3]) (g2 := g) cdE_214 rfl ?_
  by_cases hc3 : (4 : Int32) ≤ v3
  · rw [if_pos hc3] at h
    refine ev_ift cdE_214 rfl (cn_t hc3) ?_
    cases h
    exact ev_wk (L := [some (.ref 157), some (.int v1), some (.int v2)]) hb ⟨rfl, ⟨rfl, ⟨rfl, trivial⟩⟩⟩
  · rw [if_neg hc3] at h
    refine ev_iff rfl (cn_f hc3) ?_
    refine ev_rn (n := 3) (i2 := 21) (L2 := [some (.ref 157), some (.int v1), some (.int v2), some (.int v3)]) (st2 := [.int v2, .ref 166]) (g2 := g) cdE_214 rfl ?_
    by_cases hi4 : inb v2 5
    · rw [if_pos hi4] at h
      refine ev_iaload (v := .int (g.1 166 v2.toNatClampNeg)) rfl (kd_of (show S0[166]? = some (100, 5, List.replicate 5 none) from rfl)) (by decide) hi4 rfl ?_
      refine ev_rn (n := 1) (i2 := 23) (L2 := [some (.ref 157), some (.int v1), some (.int v2), some (.int v3)]) (st2 := [.int (-1 : Int32), .int (g.1 166 v2.toNatClampNeg)]) (g2 := g) cdE_214 rfl ?_
      by_cases hc5 : (g.1 166 v2.toNatClampNeg) = (-1 : Int32)
      · rw [if_pos hc5] at h
        refine ev_ift cdE_214 rfl (cn_t hc5) ?_
        cases h
        exact ev_wk (L := [some (.ref 157), some (.int v1), some (.int v2)]) hb ⟨rfl, ⟨rfl, ⟨rfl, trivial⟩⟩⟩
      · rw [if_neg hc5] at h
        refine ev_iff rfl (cn_f hc5) ?_
        refine ev_rn (n := 18) (i2 := 42) (L2 := [some (.ref 157), some (.int v1), some (.int v2), some (.int v3)]) (st2 := [.int v2, .ref 166, .int (62 : Int32), .ref 157, .long ((2 : Int64) * v1.toInt64), .int (((4 : Int32) * ((82 : Int32) + v2)) + v3), .ref 158]) (g2 := g) cdE_214 rfl ?_
        by_cases hi6 : inb v2 5
        · rw [if_pos hi6] at h
          refine ev_iaload (v := .int (g.1 166 v2.toNatClampNeg)) rfl (kd_of (show S0[166]? = some (100, 5, List.replicate 5 none) from rfl)) (by decide) hi6 rfl ?_
          refine ev_rn (n := 2) (i2 := 45) (L2 := [some (.ref 157), some (.int v1), some (.int v2), some (.int v3)]) (st2 := [.int v3, .int ((62 : Int32) + (g.1 166 v2.toNatClampNeg)), .ref 157, .long ((2 : Int64) * v1.toInt64), .int (((4 : Int32) * ((82 : Int32) + v2)) + v3), .ref 158]) (g2 := g) cdE_214 rfl ?_
          obtain ⟨q7, hq7, h⟩ := Option.bind_eq_some_iff.mp h
          refine ev_call rfl cdE_110 rfl rfl rfl (e_Mo_part ((62 : Int32) + (g.1 166 v2.toNatClampNeg)) v3  g hq7) ?_
          refine ev_rn (n := 8) (i2 := 54) (L2 := [some (.ref 157), some (.int v1), some (.int v2), some (.int v3)]) (st2 := [.long ((2 : Int64) * (g.2 157 16)), .long ((((2 : Int64) * v1.toInt64) * q7) + (g.2 157 16)), .int (((4 : Int32) * ((82 : Int32) + v2)) + v3), .ref 158]) (g2 := g) cdE_214 rfl ?_
          obtain ⟨q8, hq8, h⟩ := Option.bind_eq_some_iff.mp h
          refine ev_call rfl cdE_209 rfl rfl rfl (e_Ma_floorDiv ((((2 : Int64) * v1.toInt64) * q7) + (g.2 157 16)) ((2 : Int64) * (g.2 157 16))  g hq8) ?_
          by_cases hi10 : inb (((4 : Int32) * ((82 : Int32) + v2)) + v3) 352
          · rw [if_pos hi10] at h
            refine bd_elim h (fun g9 hg9 h => ?_)
            refine ev_lastore (g2 := g9) rfl (show S0[158]? = some (101, 352, List.replicate 352 none) from rfl) (by decide) hi10 (by rw [hg9] <;> rfl) ?_
            refine ev_rn (n := 2) (i2 := 15) (L2 := [some (.ref 157), some (.int v1), some (.int v2), some (.int (v3 + (1 : Int32)))]) (st2 := []) (g2 := g9) cdE_214 rfl ?_
            cases h
            exact ev_wk (L := [some (.ref 157), some (.int v1), some (.int v2), some (.int (v3 + (1 : Int32)))]) hb ⟨rfl, ⟨rfl, ⟨rfl, ⟨rfl, trivial⟩⟩⟩⟩
          · rw [if_neg hi10] at h
            cases h
        · rw [if_neg hi6] at h
          cases h
    · rw [if_neg hi4] at h
      cases h
def b_Mo_laysCuts_2 (v1 : Int32) (v2 : Int32) (g : M2) : Option ((Int32 × M2) ⊕ M2) := (if (g.1 160 1) ≤ v2 then some (.inr g) else ((f_Mo_clears ((82 : Int32) + v2) g).bind fun q2 => ((lp (fun s => b_Mo_laysCuts_15 v1 v2 s.1 s.2) 5000 ((0 : Int32), q2)).bind fun e11 => some (.inl ((v2 + (1 : Int32)), e11)))))
theorem tb_Mo_laysCuts_2 {Lx : Nat} (v1 : Int32)  (v2 : Int32) (g : M2) {b : (Int32 × M2) ⊕ M2} {o : Option Value × M2} (h : b_Mo_laysCuts_2 v1 v2 g = some b) (hb : Sum.elim (fun s => Ev Lx 214 cd_214 2 [some (.ref 157), some (.int v1), some (.int s.1)] [] s.2 o) (fun e => Ev Lx 214 cd_214 60 [] [] e o) b) : Ev Lx 214 cd_214 2 [some (.ref 157), some (.int v1), some (.int v2)] [] g o := by
  unfold b_Mo_laysCuts_2 at h
  refine ev_rn (n := 4) (i2 := 6) (L2 := [some (.ref 157), some (.int v1), some (.int v2)]) (st2 := [.int (1 : Int32), .ref 160, .int v2]) (g2 := g) cdE_214 rfl ?_
  refine ev_iaload (v := .int (g.1 160 1)) rfl (kd_of (show S0[160]? = some (100, 19, List.replicate 19 none) from rfl)) (by decide) ⟨by decide, by decide⟩ rfl ?_
  by_cases hc1 : (g.1 160 1) ≤ v2
  · rw [if_pos hc1] at h
    refine ev_ift cdE_214 rfl (cn_t hc1) ?_
    cases h
    exact ev_wk (L := []) hb trivial
  · rw [if_neg hc1] at h
    refine ev_iff rfl (cn_f hc1) ?_
    refine ev_rn (n := 4) (i2 := 12) (L2 := [some (.ref 157), some (.int v1), some (.int v2)]) (st2 := [.int ((82 : Int32) + v2), .ref 157]) (g2 := g) cdE_214 rfl ?_
    obtain ⟨q2, hq2, h⟩ := Option.bind_eq_some_iff.mp h
    refine ev_call rfl cdE_104 rfl rfl rfl (e_Mo_clears ((82 : Int32) + v2)  g hq2) ?_
    refine ev_rn (n := 2) (i2 := 15) (L2 := [some (.ref 157), some (.int v1), some (.int v2), some (.int (0 : Int32))]) (st2 := []) (g2 := q2) cdE_214 rfl ?_
    obtain ⟨e11, he11, h⟩ := Option.bind_eq_some_iff.mp h
    have hX12 : Ev Lx 214 cd_214 58 [some (.ref 157), some (.int v1), some (.int v2)] [] e11 o := by
      refine ev_rn (n := 2) (i2 := 2) (L2 := [some (.ref 157), some (.int v1), some (.int (v2 + (1 : Int32)))]) (st2 := []) (g2 := e11) cdE_214 rfl ?_
      cases h
      exact ev_wk (L := [some (.ref 157), some (.int v1), some (.int (v2 + (1 : Int32)))]) hb ⟨rfl, ⟨rfl, ⟨rfl, trivial⟩⟩⟩
    exact ev_wk (L := [some (.ref 157), some (.int v1), some (.int v2), some (.int (0 : Int32))]) (lp_ind (P := (fun (s : (Int32 × M2)) => Ev Lx 214 cd_214 15 [some (.ref 157), some (.int v1), some (.int v2), some (.int s.1)] [] s.2 o)) (fun s s2 hs hP => tb_Mo_laysCuts_15 v1 v2  s.1 s.2 (b := .inl s2) hs hP) (fun s hs => tb_Mo_laysCuts_15 v1 v2  s.1 s.2 (b := .inr e11) hs hX12) _ _ he11) ⟨rfl, ⟨rfl, ⟨rfl, ⟨rfl, trivial⟩⟩⟩⟩
def f_Mo_laysCuts (p0 : Int32) (g : M2) : Option (M2) := ((lp (fun s => b_Mo_laysCuts_2 p0 s.1 s.2) 5000 ((0 : Int32), g)).bind fun e13 => some e13)
theorem e_Mo_laysCuts {Lx : Nat} (p0 : Int32)  (g : M2) {b : M2} (h : f_Mo_laysCuts p0 g = some b) : Ev Lx 214 cd_214 0 [some (.ref 157), some (.int p0)] [] g (none, b) := by
  unfold f_Mo_laysCuts at h
  refine ev_rn (n := 2) (i2 := 2) (L2 := [some (.ref 157), some (.int p0), some (.int (0 : Int32))]) (st2 := []) (g2 := g) cdE_214 rfl ?_
  obtain ⟨e13, he13, h⟩ := Option.bind_eq_some_iff.mp h
  have hX14 : Ev Lx 214 cd_214 60 [] [] e13 (none, b) := by
    cases h
    exact ev_ret rfl rfl
  exact ev_wk (L := [some (.ref 157), some (.int p0), some (.int (0 : Int32))]) (lp_ind (P := (fun (s : (Int32 × M2)) => Ev Lx 214 cd_214 2 [some (.ref 157), some (.int p0), some (.int s.1)] [] s.2 (none, b))) (fun s s2 hs hP => tb_Mo_laysCuts_2 p0  s.1 s.2 (b := .inl s2) hs hP) (fun s hs => tb_Mo_laysCuts_2 p0  s.1 s.2 (b := .inr e13) hs hX14) _ _ he13) ⟨rfl, ⟨rfl, ⟨rfl, trivial⟩⟩⟩
def f_Mo_cutsNow  (g : M2) : Option (Int32 × M2) := ((f_Mo_canNow g).bind fun q1 => (if q1.1 = 0 then some ((0 : Int32), q1.2) else ((f_Mo_laysCuts (q1.2.1 160 0) q1.2).bind fun q3 => some ((1 : Int32), q3))))
theorem e_Mo_cutsNow {Lx : Nat}   (g : M2) {b : (Int32 × M2)} (h : f_Mo_cutsNow  g = some b) : Ev Lx 215 cd_215 0 [some (.ref 157)] [] g (some (.int b.1), b.2) := by
  unfold f_Mo_cutsNow at h
  refine ev_rn (n := 1) (i2 := 1) (L2 := [some (.ref 157)]) (st2 := [.ref 157]) (g2 := g) cdE_215 rfl ?_
  obtain ⟨q1, hq1, h⟩ := Option.bind_eq_some_iff.mp h
  refine ev_call rfl cdE_118 rfl rfl rfl (e_Mo_canNow   g hq1) ?_
  by_cases hc2 : q1.1 = 0
  · rw [if_pos hc2] at h
    refine ev_zff rfl (cn_f (fun q => q hc2)) ?_
    refine ev_rn (n := 1) (i2 := 4) (L2 := [some (.ref 157)]) (st2 := [.int (0 : Int32)]) (g2 := q1.2) cdE_215 rfl ?_
    cases h
    exact ev_ret rfl rt_0
  · rw [if_neg hc2] at h
    refine ev_zft cdE_215 rfl (cn_t hc2) ?_
    refine ev_rn (n := 4) (i2 := 9) (L2 := [some (.ref 157)]) (st2 := [.int (0 : Int32), .ref 160, .ref 157]) (g2 := q1.2) cdE_215 rfl ?_
    refine ev_iaload (v := .int (q1.2.1 160 0)) rfl (kd_of (show S0[160]? = some (100, 19, List.replicate 19 none) from rfl)) (by decide) ⟨by decide, by decide⟩ rfl ?_
    obtain ⟨q3, hq3, h⟩ := Option.bind_eq_some_iff.mp h
    refine ev_call rfl cdE_214 rfl rfl rfl (e_Mo_laysCuts (q1.2.1 160 0)  q1.2 hq3) ?_
    refine ev_rn (n := 1) (i2 := 12) (L2 := [some (.ref 157)]) (st2 := [.int (1 : Int32)]) (g2 := q3) cdE_215 rfl ?_
    cases h
    exact ev_ret rfl rt_1
def f_Mo_cut (p0 : Int32) (p1 : Int32) (g : M2) : Option (Int64 × M2) := ((f_Mo_isElement p0 g).bind fun q1 => (if q1 = 0 then some ((-9223372036854775808 : Int64), g) else (if (f_Mo_in p1.toInt64 (0 : Int64) (3 : Int64) g) = 0 then some ((-9223372036854775808 : Int64), g) else ((f_Mo_cutsNow g).bind fun q4 => (if q4.1 = 0 then some ((-9223372036854775808 : Int64), q4.2) else ((f_Mo_part ((82 : Int32) + p0) p1 q4.2).bind fun q6 => some (q6, q4.2)))))))
theorem e_Mo_cut {Lx : Nat} (p0 : Int32) (p1 : Int32)  (g : M2) {b : (Int64 × M2)} (h : f_Mo_cut p0 p1 g = some b) : Ev Lx 216 cd_216 0 [some (.ref 157), some (.int p0), some (.int p1)] [] g (some (.long b.1), b.2) := by
  unfold f_Mo_cut at h
  refine ev_rn (n := 2) (i2 := 2) (L2 := [some (.ref 157), some (.int p0), some (.int p1)]) (st2 := [.int p0, .ref 157]) (g2 := g) cdE_216 rfl ?_
  obtain ⟨q1, hq1, h⟩ := Option.bind_eq_some_iff.mp h
  refine ev_call rfl cdE_69 rfl rfl rfl (e_Mo_isElement p0  g hq1) ?_
  by_cases hc2 : q1 = 0
  · rw [if_pos hc2] at h
    refine ev_zft cdE_216 rfl (cn_t hc2) ?_
    refine ev_rn (n := 1) (i2 := 14) (L2 := [some (.ref 157), some (.int p0), some (.int p1)]) (st2 := [.long (-9223372036854775808 : Int64)]) (g2 := g) cdE_216 rfl ?_
    cases h
    exact ev_ret rfl rfl
  · rw [if_neg hc2] at h
    refine ev_zff rfl (cn_f hc2) ?_
    refine ev_rn (n := 4) (i2 := 8) (L2 := [some (.ref 157), some (.int p0), some (.int p1)]) (st2 := [.long (3 : Int64), .long (0 : Int64), .long p1.toInt64]) (g2 := g) cdE_216 rfl ?_
    refine ev_call rfl cdE_16 rfl rfl rfl (e_Mo_in p1.toInt64 (0 : Int64) (3 : Int64)  g rfl) ?_
    by_cases hc3 : (f_Mo_in p1.toInt64 (0 : Int64) (3 : Int64) g) = 0
    · rw [if_pos hc3] at h
      refine ev_zft cdE_216 rfl (cn_t hc3) ?_
      refine ev_rn (n := 1) (i2 := 14) (L2 := [some (.ref 157), some (.int p0), some (.int p1)]) (st2 := [.long (-9223372036854775808 : Int64)]) (g2 := g) cdE_216 rfl ?_
      cases h
      exact ev_ret rfl rfl
    · rw [if_neg hc3] at h
      refine ev_zff rfl (cn_f hc3) ?_
      refine ev_rn (n := 1) (i2 := 11) (L2 := [some (.ref 157), some (.int p0), some (.int p1)]) (st2 := [.ref 157]) (g2 := g) cdE_216 rfl ?_
      obtain ⟨q4, hq4, h⟩ := Option.bind_eq_some_iff.mp h
      refine ev_call rfl cdE_215 rfl rfl rfl (e_Mo_cutsNow   g hq4) ?_
      by_cases hc5 : q4.1 = 0
      · rw [if_pos hc5] at h
        refine ev_zff rfl (cn_f (fun q => q hc5)) ?_
        refine ev_rn (n := 1) (i2 := 14) (L2 := [some (.ref 157), some (.int p0), some (.int p1)]) (st2 := [.long (-9223372036854775808 : Int64)]) (g2 := q4.2) cdE_216 rfl ?_
        cases h
        exact ev_ret rfl rfl
      · rw [if_neg hc5] at h
        refine ev_zft cdE_216 rfl (cn_t hc5) ?_
        refine ev_rn (n := 5) (i2 := 20) (L2 := [some (.ref 157), some (.int p0), some (.int p1)]) (st2 := [.int p1, .int ((82 : Int32) + p0), .ref 157]) (g2 := q4.2) cdE_216 rfl ?_
        obtain ⟨q6, hq6, h⟩ := Option.bind_eq_some_iff.mp h
        refine ev_call rfl cdE_110 rfl rfl rfl (e_Mo_part ((82 : Int32) + p0) p1  q4.2 hq6) ?_
        cases h
        exact ev_ret rfl rfl
def f_Da_cutGain (p0 : Int32) (p1 : Int32) (g : M2) : Option (Int64 × M2) := ((f_Da_refresh g).bind fun q1 => (if (q1.1 6 13) = 0 then some ((-9223372036854775808 : Int64), q1) else (if (f_Da_isDirection p0 q1) = 0 then some ((-9223372036854775808 : Int64), q1) else (if (f_Da_isAmong p1 (4 : Int32) q1) = 0 then some ((-9223372036854775808 : Int64), q1) else ((f_Cu_roundAll 6 (q1.1 7 6) q1).bind fun q5 => ((f_Pl_hearBy 7 139 p0 155 q5).bind fun q6 => some ((f_Nu_part 155 p1 q6), q6)))))))
theorem e_Da_cutGain {Lx : Nat} (p0 : Int32) (p1 : Int32)  (g : M2) {b : (Int64 × M2)} (h : f_Da_cutGain p0 p1 g = some b) : Ev Lx 217 cd_217 0 [some (.ref 0), some (.int p0), some (.int p1)] [] g (some (.long b.1), b.2) := by
  unfold f_Da_cutGain at h
  refine ev_rn (n := 1) (i2 := 1) (L2 := [some (.ref 0), some (.int p0), some (.int p1)]) (st2 := [.ref 0]) (g2 := g) cdE_217 rfl ?_
  obtain ⟨q1, hq1, h⟩ := Option.bind_eq_some_iff.mp h
  refine ev_call rfl cdE_100 rfl rfl rfl (e_Da_refresh   g hq1) ?_
  refine ev_rn (n := 3) (i2 := 5) (L2 := [some (.ref 0), some (.int p0), some (.int p1)]) (st2 := [.int (q1.1 6 13)]) (g2 := q1) cdE_217 rfl ?_
  by_cases hc2 : (q1.1 6 13) = 0
  · rw [if_pos hc2] at h
    refine ev_zft cdE_217 rfl (cn_t hc2) ?_
    refine ev_rn (n := 1) (i2 := 14) (L2 := [some (.ref 0), some (.int p0), some (.int p1)]) (st2 := [.long (-9223372036854775808 : Int64)]) (g2 := q1) cdE_217 rfl ?_
    cases h
    exact ev_ret rfl rfl
  · rw [if_neg hc2] at h
    refine ev_zff rfl (cn_f hc2) ?_
    refine ev_rn (n := 1) (i2 := 7) (L2 := [some (.ref 0), some (.int p0), some (.int p1)]) (st2 := [.int p0]) (g2 := q1) cdE_217 rfl ?_
    refine ev_call rfl cdE_71 rfl rfl rfl (e_Da_isDirection p0  q1 rfl) ?_
    by_cases hc3 : (f_Da_isDirection p0 q1) = 0
    · rw [if_pos hc3] at h
      refine ev_zft cdE_217 rfl (cn_t hc3) ?_
      refine ev_rn (n := 1) (i2 := 14) (L2 := [some (.ref 0), some (.int p0), some (.int p1)]) (st2 := [.long (-9223372036854775808 : Int64)]) (g2 := q1) cdE_217 rfl ?_
      cases h
      exact ev_ret rfl rfl
    · rw [if_neg hc3] at h
      refine ev_zff rfl (cn_f hc3) ?_
      refine ev_rn (n := 2) (i2 := 11) (L2 := [some (.ref 0), some (.int p0), some (.int p1)]) (st2 := [.int (4 : Int32), .int p1]) (g2 := q1) cdE_217 rfl ?_
      refine ev_call rfl cdE_65 rfl rfl rfl (e_Da_isAmong p1 (4 : Int32)  q1 rfl) ?_
      by_cases hc4 : (f_Da_isAmong p1 (4 : Int32) q1) = 0
      · rw [if_pos hc4] at h
        refine ev_zff rfl (cn_f (fun q => q hc4)) ?_
        refine ev_rn (n := 1) (i2 := 14) (L2 := [some (.ref 0), some (.int p0), some (.int p1)]) (st2 := [.long (-9223372036854775808 : Int64)]) (g2 := q1) cdE_217 rfl ?_
        cases h
        exact ev_ret rfl rfl
      · rw [if_neg hc4] at h
        refine ev_zft cdE_217 rfl (cn_t hc4) ?_
        refine ev_rn (n := 8) (i2 := 23) (L2 := [some (.ref 0), some (.int p0), some (.int p1)]) (st2 := [.int (q1.1 7 6), .ref 6, .ref 138]) (g2 := q1) cdE_217 rfl ?_
        obtain ⟨q5, hq5, h⟩ := Option.bind_eq_some_iff.mp h
        refine ev_call rfl cdE_212 rfl rfl rfl (e_Cu_roundAll 6 (q1.1 7 6) (by decide) q1 hq5) ?_
        refine ev_rn (n := 9) (i2 := 33) (L2 := [some (.ref 0), some (.int p0), some (.int p1)]) (st2 := [.ref 155, .int p0, .ref 139, .ref 7]) (g2 := q5) cdE_217 rfl ?_
        obtain ⟨q6, hq6, h⟩ := Option.bind_eq_some_iff.mp h
        refine ev_call rfl cdE_96 rfl rfl rfl (e_Pl_hearBy 7 139 p0 155 (by decide) (na_139) (num_lit 155 rfl) q5 hq6) ?_
        refine ev_rn (n := 3) (i2 := 37) (L2 := [some (.ref 0), some (.int p0), some (.int p1)]) (st2 := [.int p1, .ref 155]) (g2 := q6) cdE_217 rfl ?_
        refine ev_call rfl cdE_124 rfl rfl rfl (e_Nu_part 155 p1 (num_lit 155 rfl) q6 rfl) ?_
        cases h
        exact ev_ret rfl rfl
def b_Mo_laysCutGain_5 (v1 : Int32) (v2 : Int32) (g : M2) : Option ((Int32 × M2) ⊕ M2) := (if (g.1 160 1) ≤ v2 then some (.inr g) else (if inb ((2 : Int32) + v2) 19 then ((f_Mo_addsTurned (87 : Int32) ((82 : Int32) + v2) (v1 * (g.1 160 ((2 : Int32) + v2).toNatClampNeg)) (1 : Int64) g).bind fun q4 => some (.inl ((v2 + (1 : Int32)), q4))) else none))
theorem tb_Mo_laysCutGain_5 {Lx : Nat} (v1 : Int32)  (v2 : Int32) (g : M2) {b : (Int32 × M2) ⊕ M2} {o : Option Value × M2} (h : b_Mo_laysCutGain_5 v1 v2 g = some b) (hb : Sum.elim (fun s => Ev Lx 218 cd_218 5 [some (.ref 157), some (.int v1), some (.int s.1)] [] s.2 o) (fun e => Ev Lx 218 cd_218 28 [] [] e o) b) : Ev Lx 218 cd_218 5 [some (.ref 157), some (.int v1), some (.int v2)] [] g o := by
  unfold b_Mo_laysCutGain_5 at h
  refine ev_rn (n := 4) (i2 := 9) (L2 := [some (.ref 157), some (.int v1), some (.int v2)]) (st2 := [.int (1 : Int32), .ref 160, .int v2]) (g2 := g) cdE_218 rfl ?_
  refine ev_iaload (v := .int (g.1 160 1)) rfl (kd_of (show S0[160]? = some (100, 19, List.replicate 19 none) from rfl)) (by decide) ⟨by decide, by decide⟩ rfl ?_
  by_cases hc2 : (g.1 160 1) ≤ v2
  · rw [if_pos hc2] at h
    refine ev_ift cdE_218 rfl (cn_t hc2) ?_
    cases h
    exact ev_wk (L := []) hb trivial
  · rw [if_neg hc2] at h
    refine ev_iff rfl (cn_f hc2) ?_
    refine ev_rn (n := 11) (i2 := 22) (L2 := [some (.ref 157), some (.int v1), some (.int v2)]) (st2 := [.int ((2 : Int32) + v2), .ref 160, .int v1, .int ((82 : Int32) + v2), .int (87 : Int32), .ref 157]) (g2 := g) cdE_218 rfl ?_
    by_cases hi3 : inb ((2 : Int32) + v2) 19
    · rw [if_pos hi3] at h
      refine ev_iaload (v := .int (g.1 160 ((2 : Int32) + v2).toNatClampNeg)) rfl (kd_of (show S0[160]? = some (100, 19, List.replicate 19 none) from rfl)) (by decide) hi3 rfl ?_
      refine ev_rn (n := 2) (i2 := 25) (L2 := [some (.ref 157), some (.int v1), some (.int v2)]) (st2 := [.long (1 : Int64), .int (v1 * (g.1 160 ((2 : Int32) + v2).toNatClampNeg)), .int ((82 : Int32) + v2), .int (87 : Int32), .ref 157]) (g2 := g) cdE_218 rfl ?_
      obtain ⟨q4, hq4, h⟩ := Option.bind_eq_some_iff.mp h
      refine ev_call rfl cdE_114 rfl rfl rfl (e_Mo_addsTurned (87 : Int32) ((82 : Int32) + v2) (v1 * (g.1 160 ((2 : Int32) + v2).toNatClampNeg)) (1 : Int64)  g hq4) ?_
      refine ev_rn (n := 2) (i2 := 5) (L2 := [some (.ref 157), some (.int v1), some (.int (v2 + (1 : Int32)))]) (st2 := []) (g2 := q4) cdE_218 rfl ?_
      cases h
      exact ev_wk (L := [some (.ref 157), some (.int v1), some (.int (v2 + (1 : Int32)))]) hb ⟨rfl, ⟨rfl, ⟨rfl, trivial⟩⟩⟩
    · rw [if_neg hi3] at h
      cases h
def f_Mo_laysCutGain (p0 : Int32) (g : M2) : Option (M2) := ((f_Mo_clears (87 : Int32) g).bind fun q1 => ((lp (fun s => b_Mo_laysCutGain_5 p0 s.1 s.2) 5000 ((0 : Int32), q1)).bind fun e5 => some e5))
theorem e_Mo_laysCutGain {Lx : Nat} (p0 : Int32)  (g : M2) {b : M2} (h : f_Mo_laysCutGain p0 g = some b) : Ev Lx 218 cd_218 0 [some (.ref 157), some (.int p0)] [] g (none, b) := by
  unfold f_Mo_laysCutGain at h
  refine ev_rn (n := 2) (i2 := 2) (L2 := [some (.ref 157), some (.int p0)]) (st2 := [.int (87 : Int32), .ref 157]) (g2 := g) cdE_218 rfl ?_
  obtain ⟨q1, hq1, h⟩ := Option.bind_eq_some_iff.mp h
  refine ev_call rfl cdE_104 rfl rfl rfl (e_Mo_clears (87 : Int32)  g hq1) ?_
  refine ev_rn (n := 2) (i2 := 5) (L2 := [some (.ref 157), some (.int p0), some (.int (0 : Int32))]) (st2 := []) (g2 := q1) cdE_218 rfl ?_
  obtain ⟨e5, he5, h⟩ := Option.bind_eq_some_iff.mp h
  have hX6 : Ev Lx 218 cd_218 28 [] [] e5 (none, b) := by
    cases h
    exact ev_ret rfl rfl
  exact ev_wk (L := [some (.ref 157), some (.int p0), some (.int (0 : Int32))]) (lp_ind (P := (fun (s : (Int32 × M2)) => Ev Lx 218 cd_218 5 [some (.ref 157), some (.int p0), some (.int s.1)] [] s.2 (none, b))) (fun s s2 hs hP => tb_Mo_laysCutGain_5 p0  s.1 s.2 (b := .inl s2) hs hP) (fun s hs => tb_Mo_laysCutGain_5 p0  s.1 s.2 (b := .inr e5) hs hX6) _ _ he5) ⟨rfl, ⟨rfl, ⟨rfl, trivial⟩⟩⟩
def f_Mo_cutGain (p0 : Int32) (p1 : Int32) (g : M2) : Option (Int64 × M2) := (if (f_Mo_isDirection p0 g) = 0 then some ((-9223372036854775808 : Int64), g) else (if (f_Mo_in p1.toInt64 (0 : Int64) (3 : Int64) g) = 0 then some ((-9223372036854775808 : Int64), g) else ((f_Mo_cutsNow g).bind fun q3 => (if q3.1 = 0 then some ((-9223372036854775808 : Int64), q3.2) else ((f_Mo_laysCutGain p0 q3.2).bind fun q5 => ((f_Mo_part (87 : Int32) p1 q5).bind fun q6 => some (q6, q5)))))))
theorem e_Mo_cutGain {Lx : Nat} (p0 : Int32) (p1 : Int32)  (g : M2) {b : (Int64 × M2)} (h : f_Mo_cutGain p0 p1 g = some b) : Ev Lx 219 cd_219 0 [some (.ref 157), some (.int p0), some (.int p1)] [] g (some (.long b.1), b.2) := by
  unfold f_Mo_cutGain at h
  refine ev_rn (n := 1) (i2 := 1) (L2 := [some (.ref 157), some (.int p0), some (.int p1)]) (st2 := [.int p0]) (g2 := g) cdE_219 rfl ?_
  refine ev_call rfl cdE_73 rfl rfl rfl (e_Mo_isDirection p0  g rfl) ?_
  by_cases hc1 : (f_Mo_isDirection p0 g) = 0
  · rw [if_pos hc1] at h
    refine ev_zft cdE_219 rfl (cn_t hc1) ?_
    refine ev_rn (n := 1) (i2 := 13) (L2 := [some (.ref 157), some (.int p0), some (.int p1)]) (st2 := [.long (-9223372036854775808 : Int64)]) (g2 := g) cdE_219 rfl ?_
    cases h
    exact ev_ret rfl rfl
  · rw [if_neg hc1] at h
    refine ev_zff rfl (cn_f hc1) ?_
    refine ev_rn (n := 4) (i2 := 7) (L2 := [some (.ref 157), some (.int p0), some (.int p1)]) (st2 := [.long (3 : Int64), .long (0 : Int64), .long p1.toInt64]) (g2 := g) cdE_219 rfl ?_
    refine ev_call rfl cdE_16 rfl rfl rfl (e_Mo_in p1.toInt64 (0 : Int64) (3 : Int64)  g rfl) ?_
    by_cases hc2 : (f_Mo_in p1.toInt64 (0 : Int64) (3 : Int64) g) = 0
    · rw [if_pos hc2] at h
      refine ev_zft cdE_219 rfl (cn_t hc2) ?_
      refine ev_rn (n := 1) (i2 := 13) (L2 := [some (.ref 157), some (.int p0), some (.int p1)]) (st2 := [.long (-9223372036854775808 : Int64)]) (g2 := g) cdE_219 rfl ?_
      cases h
      exact ev_ret rfl rfl
    · rw [if_neg hc2] at h
      refine ev_zff rfl (cn_f hc2) ?_
      refine ev_rn (n := 1) (i2 := 10) (L2 := [some (.ref 157), some (.int p0), some (.int p1)]) (st2 := [.ref 157]) (g2 := g) cdE_219 rfl ?_
      obtain ⟨q3, hq3, h⟩ := Option.bind_eq_some_iff.mp h
      refine ev_call rfl cdE_215 rfl rfl rfl (e_Mo_cutsNow   g hq3) ?_
      by_cases hc4 : q3.1 = 0
      · rw [if_pos hc4] at h
        refine ev_zff rfl (cn_f (fun q => q hc4)) ?_
        refine ev_rn (n := 1) (i2 := 13) (L2 := [some (.ref 157), some (.int p0), some (.int p1)]) (st2 := [.long (-9223372036854775808 : Int64)]) (g2 := q3.2) cdE_219 rfl ?_
        cases h
        exact ev_ret rfl rfl
      · rw [if_neg hc4] at h
        refine ev_zft cdE_219 rfl (cn_t hc4) ?_
        refine ev_rn (n := 2) (i2 := 16) (L2 := [some (.ref 157), some (.int p0), some (.int p1)]) (st2 := [.int p0, .ref 157]) (g2 := q3.2) cdE_219 rfl ?_
        obtain ⟨q5, hq5, h⟩ := Option.bind_eq_some_iff.mp h
        refine ev_call rfl cdE_218 rfl rfl rfl (e_Mo_laysCutGain p0  q3.2 hq5) ?_
        refine ev_rn (n := 3) (i2 := 20) (L2 := [some (.ref 157), some (.int p0), some (.int p1)]) (st2 := [.int p1, .int (87 : Int32), .ref 157]) (g2 := q5) cdE_219 rfl ?_
        obtain ⟨q6, hq6, h⟩ := Option.bind_eq_some_iff.mp h
        refine ev_call rfl cdE_110 rfl rfl rfl (e_Mo_part (87 : Int32) p1  q5 hq6) ?_
        cases h
        exact ev_ret rfl rfl
def f_Da_cutPower (p0 : Int32) (p1 : Int32) (g : M2) : Option (Int64 × M2) := ((f_Da_refresh g).bind fun q1 => (if (q1.1 6 13) = 0 then some ((-9223372036854775808 : Int64), q1) else (if (f_Da_isDirection p0 q1) = 0 then some ((-9223372036854775808 : Int64), q1) else (if (f_Da_isAmong p1 (2 : Int32) q1) = 0 then some ((-9223372036854775808 : Int64), q1) else ((f_Cu_roundAll 6 (q1.1 7 6) q1).bind fun q5 => ((f_Pl_hearBy 7 139 p0 155 q5).bind fun q6 => (if p1 = 0 then some ((f_Nu_powerX 155 q6), q6) else some ((f_Nu_powerY 155 q6), q6))))))))
theorem e_Da_cutPower {Lx : Nat} (p0 : Int32) (p1 : Int32)  (g : M2) {b : (Int64 × M2)} (h : f_Da_cutPower p0 p1 g = some b) : Ev Lx 220 cd_220 0 [some (.ref 0), some (.int p0), some (.int p1)] [] g (some (.long b.1), b.2) := by
  unfold f_Da_cutPower at h
  refine ev_rn (n := 1) (i2 := 1) (L2 := [some (.ref 0), some (.int p0), some (.int p1)]) (st2 := [.ref 0]) (g2 := g) cdE_220 rfl ?_
  obtain ⟨q1, hq1, h⟩ := Option.bind_eq_some_iff.mp h
  refine ev_call rfl cdE_100 rfl rfl rfl (e_Da_refresh   g hq1) ?_
  refine ev_rn (n := 3) (i2 := 5) (L2 := [some (.ref 0), some (.int p0), some (.int p1)]) (st2 := [.int (q1.1 6 13)]) (g2 := q1) cdE_220 rfl ?_
  by_cases hc2 : (q1.1 6 13) = 0
  · rw [if_pos hc2] at h
    refine ev_zft cdE_220 rfl (cn_t hc2) ?_
    refine ev_rn (n := 1) (i2 := 14) (L2 := [some (.ref 0), some (.int p0), some (.int p1)]) (st2 := [.long (-9223372036854775808 : Int64)]) (g2 := q1) cdE_220 rfl ?_
    cases h
    exact ev_ret rfl rfl
  · rw [if_neg hc2] at h
    refine ev_zff rfl (cn_f hc2) ?_
    refine ev_rn (n := 1) (i2 := 7) (L2 := [some (.ref 0), some (.int p0), some (.int p1)]) (st2 := [.int p0]) (g2 := q1) cdE_220 rfl ?_
    refine ev_call rfl cdE_71 rfl rfl rfl (e_Da_isDirection p0  q1 rfl) ?_
    by_cases hc3 : (f_Da_isDirection p0 q1) = 0
    · rw [if_pos hc3] at h
      refine ev_zft cdE_220 rfl (cn_t hc3) ?_
      refine ev_rn (n := 1) (i2 := 14) (L2 := [some (.ref 0), some (.int p0), some (.int p1)]) (st2 := [.long (-9223372036854775808 : Int64)]) (g2 := q1) cdE_220 rfl ?_
      cases h
      exact ev_ret rfl rfl
    · rw [if_neg hc3] at h
      refine ev_zff rfl (cn_f hc3) ?_
      refine ev_rn (n := 2) (i2 := 11) (L2 := [some (.ref 0), some (.int p0), some (.int p1)]) (st2 := [.int (2 : Int32), .int p1]) (g2 := q1) cdE_220 rfl ?_
      refine ev_call rfl cdE_65 rfl rfl rfl (e_Da_isAmong p1 (2 : Int32)  q1 rfl) ?_
      by_cases hc4 : (f_Da_isAmong p1 (2 : Int32) q1) = 0
      · rw [if_pos hc4] at h
        refine ev_zff rfl (cn_f (fun q => q hc4)) ?_
        refine ev_rn (n := 1) (i2 := 14) (L2 := [some (.ref 0), some (.int p0), some (.int p1)]) (st2 := [.long (-9223372036854775808 : Int64)]) (g2 := q1) cdE_220 rfl ?_
        cases h
        exact ev_ret rfl rfl
      · rw [if_neg hc4] at h
        refine ev_zft cdE_220 rfl (cn_t hc4) ?_
        refine ev_rn (n := 8) (i2 := 23) (L2 := [some (.ref 0), some (.int p0), some (.int p1)]) (st2 := [.int (q1.1 7 6), .ref 6, .ref 138]) (g2 := q1) cdE_220 rfl ?_
        obtain ⟨q5, hq5, h⟩ := Option.bind_eq_some_iff.mp h
        refine ev_call rfl cdE_212 rfl rfl rfl (e_Cu_roundAll 6 (q1.1 7 6) (by decide) q1 hq5) ?_
        refine ev_rn (n := 9) (i2 := 33) (L2 := [some (.ref 0), some (.int p0), some (.int p1)]) (st2 := [.ref 155, .int p0, .ref 139, .ref 7]) (g2 := q5) cdE_220 rfl ?_
        obtain ⟨q6, hq6, h⟩ := Option.bind_eq_some_iff.mp h
        refine ev_call rfl cdE_96 rfl rfl rfl (e_Pl_hearBy 7 139 p0 155 (by decide) (na_139) (num_lit 155 rfl) q5 hq6) ?_
        refine ev_rn (n := 1) (i2 := 35) (L2 := [some (.ref 0), some (.int p0), some (.int p1)]) (st2 := [.int p1]) (g2 := q6) cdE_220 rfl ?_
        by_cases hc7 : p1 = 0
        · rw [if_pos hc7] at h
          refine ev_zff rfl (cn_f (fun q => q hc7)) ?_
          refine ev_rn (n := 2) (i2 := 38) (L2 := [some (.ref 0), some (.int p0), some (.int p1)]) (st2 := [.ref 155]) (g2 := q6) cdE_220 rfl ?_
          refine ev_call rfl cdE_97 rfl rfl rfl (e_Nu_powerX 155 (num_lit 155 rfl) q6 rfl) ?_
          refine ev_rn (n := 1) (i2 := 43) (L2 := [some (.ref 0), some (.int p0), some (.int p1)]) (st2 := [.long (f_Nu_powerX 155 q6)]) (g2 := q6) cdE_220 rfl ?_
          cases h
          exact ev_ret rfl rfl
        · rw [if_neg hc7] at h
          refine ev_zft cdE_220 rfl (cn_t hc7) ?_
          refine ev_rn (n := 2) (i2 := 42) (L2 := [some (.ref 0), some (.int p0), some (.int p1)]) (st2 := [.ref 155]) (g2 := q6) cdE_220 rfl ?_
          refine ev_call rfl cdE_98 rfl rfl rfl (e_Nu_powerY 155 (num_lit 155 rfl) q6 rfl) ?_
          cases h
          exact ev_ret rfl rfl
def f_Mo_cutPower (p0 : Int32) (p1 : Int32) (g : M2) : Option (Int64 × M2) := (if (f_Mo_isDirection p0 g) = 0 then some ((-9223372036854775808 : Int64), g) else (if (f_Mo_in p1.toInt64 (0 : Int64) (1 : Int64) g) = 0 then some ((-9223372036854775808 : Int64), g) else ((f_Mo_cutsNow g).bind fun q3 => (if q3.1 = 0 then some ((-9223372036854775808 : Int64), q3.2) else ((f_Mo_laysCutGain p0 q3.2).bind fun q5 => ((f_Mo_laysPower (87 : Int32) q5).bind fun q6 => (if p1 = 0 then some ((q6.2 157 3), q6) else some ((q6.2 157 4), q6))))))))
theorem e_Mo_cutPower {Lx : Nat} (p0 : Int32) (p1 : Int32)  (g : M2) {b : (Int64 × M2)} (h : f_Mo_cutPower p0 p1 g = some b) : Ev Lx 221 cd_221 0 [some (.ref 157), some (.int p0), some (.int p1)] [] g (some (.long b.1), b.2) := by
  unfold f_Mo_cutPower at h
  refine ev_rn (n := 1) (i2 := 1) (L2 := [some (.ref 157), some (.int p0), some (.int p1)]) (st2 := [.int p0]) (g2 := g) cdE_221 rfl ?_
  refine ev_call rfl cdE_73 rfl rfl rfl (e_Mo_isDirection p0  g rfl) ?_
  by_cases hc1 : (f_Mo_isDirection p0 g) = 0
  · rw [if_pos hc1] at h
    refine ev_zft cdE_221 rfl (cn_t hc1) ?_
    refine ev_rn (n := 1) (i2 := 13) (L2 := [some (.ref 157), some (.int p0), some (.int p1)]) (st2 := [.long (-9223372036854775808 : Int64)]) (g2 := g) cdE_221 rfl ?_
    cases h
    exact ev_ret rfl rfl
  · rw [if_neg hc1] at h
    refine ev_zff rfl (cn_f hc1) ?_
    refine ev_rn (n := 4) (i2 := 7) (L2 := [some (.ref 157), some (.int p0), some (.int p1)]) (st2 := [.long (1 : Int64), .long (0 : Int64), .long p1.toInt64]) (g2 := g) cdE_221 rfl ?_
    refine ev_call rfl cdE_16 rfl rfl rfl (e_Mo_in p1.toInt64 (0 : Int64) (1 : Int64)  g rfl) ?_
    by_cases hc2 : (f_Mo_in p1.toInt64 (0 : Int64) (1 : Int64) g) = 0
    · rw [if_pos hc2] at h
      refine ev_zft cdE_221 rfl (cn_t hc2) ?_
      refine ev_rn (n := 1) (i2 := 13) (L2 := [some (.ref 157), some (.int p0), some (.int p1)]) (st2 := [.long (-9223372036854775808 : Int64)]) (g2 := g) cdE_221 rfl ?_
      cases h
      exact ev_ret rfl rfl
    · rw [if_neg hc2] at h
      refine ev_zff rfl (cn_f hc2) ?_
      refine ev_rn (n := 1) (i2 := 10) (L2 := [some (.ref 157), some (.int p0), some (.int p1)]) (st2 := [.ref 157]) (g2 := g) cdE_221 rfl ?_
      obtain ⟨q3, hq3, h⟩ := Option.bind_eq_some_iff.mp h
      refine ev_call rfl cdE_215 rfl rfl rfl (e_Mo_cutsNow   g hq3) ?_
      by_cases hc4 : q3.1 = 0
      · rw [if_pos hc4] at h
        refine ev_zff rfl (cn_f (fun q => q hc4)) ?_
        refine ev_rn (n := 1) (i2 := 13) (L2 := [some (.ref 157), some (.int p0), some (.int p1)]) (st2 := [.long (-9223372036854775808 : Int64)]) (g2 := q3.2) cdE_221 rfl ?_
        cases h
        exact ev_ret rfl rfl
      · rw [if_neg hc4] at h
        refine ev_zft cdE_221 rfl (cn_t hc4) ?_
        refine ev_rn (n := 2) (i2 := 16) (L2 := [some (.ref 157), some (.int p0), some (.int p1)]) (st2 := [.int p0, .ref 157]) (g2 := q3.2) cdE_221 rfl ?_
        obtain ⟨q5, hq5, h⟩ := Option.bind_eq_some_iff.mp h
        refine ev_call rfl cdE_218 rfl rfl rfl (e_Mo_laysCutGain p0  q3.2 hq5) ?_
        refine ev_rn (n := 2) (i2 := 19) (L2 := [some (.ref 157), some (.int p0), some (.int p1)]) (st2 := [.int (87 : Int32), .ref 157]) (g2 := q5) cdE_221 rfl ?_
        obtain ⟨q6, hq6, h⟩ := Option.bind_eq_some_iff.mp h
        refine ev_call rfl cdE_137 rfl rfl rfl (e_Mo_laysPower (87 : Int32)  q5 hq6) ?_
        refine ev_rn (n := 1) (i2 := 21) (L2 := [some (.ref 157), some (.int p0), some (.int p1)]) (st2 := [.int p1]) (g2 := q6) cdE_221 rfl ?_
        by_cases hc7 : p1 = 0
        · rw [if_pos hc7] at h
          refine ev_zff rfl (cn_f (fun q => q hc7)) ?_
          refine ev_rn (n := 3) (i2 := 27) (L2 := [some (.ref 157), some (.int p0), some (.int p1)]) (st2 := [.long (q6.2 157 3)]) (g2 := q6) cdE_221 rfl ?_
          cases h
          exact ev_ret rfl rfl
        · rw [if_neg hc7] at h
          refine ev_zft cdE_221 rfl (cn_t hc7) ?_
          refine ev_rn (n := 2) (i2 := 27) (L2 := [some (.ref 157), some (.int p0), some (.int p1)]) (st2 := [.long (q6.2 157 4)]) (g2 := q6) cdE_221 rfl ?_
          cases h
          exact ev_ret rfl rfl
def f_Nu_scale (a0 : Nat) (p0 : Int64) (g : M2) : Option (M2) := (bd (uJ g a0 0 ((g.2 a0 0) * p0)) fun g1 => (bd (uJ g1 a0 1 ((g1.2 a0 1) * p0)) fun g2 => (bd (uJ g2 a0 2 ((g2.2 a0 2) * p0)) fun g3 => (bd (uJ g3 a0 3 ((g3.2 a0 3) * p0)) fun g4 => some g4))))
theorem e_Nu_scale {Lx : Nat} (a0 : Nat) (p0 : Int64) (ha0 : IsNum a0) (g : M2) {b : M2} (h : f_Nu_scale a0 p0 g = some b) : Ev Lx 222 cd_222 0 [some (.ref a0), some (.long p0), none] [] g (none, b) := by
  unfold f_Nu_scale at h
  refine ev_rn (n := 2) (i2 := 2) (L2 := [some (.ref a0), some (.long p0), none]) (st2 := [.ref a0, .ref a0]) (g2 := g) cdE_222 rfl ?_
  refine ev_gf (v := .long (g.2 a0 0)) rfl ha0 (by decide) rfl ?_
  refine ev_rn (n := 2) (i2 := 5) (L2 := [some (.ref a0), some (.long p0), none]) (st2 := [.long ((g.2 a0 0) * p0), .ref a0]) (g2 := g) cdE_222 rfl ?_
  refine bd_elim h (fun g1 hg1 h => ?_)
  refine ev_pf (g2 := g1) rfl ha0 (by decide) (by rw [hg1] <;> rfl) ?_
  refine ev_rn (n := 2) (i2 := 8) (L2 := [some (.ref a0), some (.long p0), none]) (st2 := [.ref a0, .ref a0]) (g2 := g1) cdE_222 rfl ?_
  refine ev_gf (v := .long (g1.2 a0 1)) rfl ha0 (by decide) rfl ?_
  refine ev_rn (n := 2) (i2 := 11) (L2 := [some (.ref a0), some (.long p0), none]) (st2 := [.long ((g1.2 a0 1) * p0), .ref a0]) (g2 := g1) cdE_222 rfl ?_
  refine bd_elim h (fun g2 hg2 h => ?_)
  refine ev_pf (g2 := g2) rfl ha0 (by decide) (by rw [hg2] <;> rfl) ?_
  refine ev_rn (n := 2) (i2 := 14) (L2 := [some (.ref a0), some (.long p0), none]) (st2 := [.ref a0, .ref a0]) (g2 := g2) cdE_222 rfl ?_
  refine ev_gf (v := .long (g2.2 a0 2)) rfl ha0 (by decide) rfl ?_
  refine ev_rn (n := 2) (i2 := 17) (L2 := [some (.ref a0), some (.long p0), none]) (st2 := [.long ((g2.2 a0 2) * p0), .ref a0]) (g2 := g2) cdE_222 rfl ?_
  refine bd_elim h (fun g3 hg3 h => ?_)
  refine ev_pf (g2 := g3) rfl ha0 (by decide) (by rw [hg3] <;> rfl) ?_
  refine ev_rn (n := 2) (i2 := 20) (L2 := [some (.ref a0), some (.long p0), none]) (st2 := [.ref a0, .ref a0]) (g2 := g3) cdE_222 rfl ?_
  refine ev_gf (v := .long (g3.2 a0 3)) rfl ha0 (by decide) rfl ?_
  refine ev_rn (n := 2) (i2 := 23) (L2 := [some (.ref a0), some (.long p0), none]) (st2 := [.long ((g3.2 a0 3) * p0), .ref a0]) (g2 := g3) cdE_222 rfl ?_
  refine bd_elim h (fun g4 hg4 h => ?_)
  refine ev_pf (g2 := g4) rfl ha0 (by decide) (by rw [hg4] <;> rfl) ?_
  cases h
  exact ev_ret rfl rfl
def f_Nu_addScaled (a0 : Nat) (p0 : Nat) (p1 : Int64) (g : M2) : Option (M2) := (bd (uJ g a0 0 ((g.2 a0 0) + ((g.2 p0 0) * p1))) fun g1 => (bd (uJ g1 a0 1 ((g1.2 a0 1) + ((g1.2 p0 1) * p1))) fun g2 => (bd (uJ g2 a0 2 ((g2.2 a0 2) + ((g2.2 p0 2) * p1))) fun g3 => (bd (uJ g3 a0 3 ((g3.2 a0 3) + ((g3.2 p0 3) * p1))) fun g4 => some g4))))
theorem e_Nu_addScaled {Lx : Nat} (a0 : Nat) (p0 : Nat) (p1 : Int64) (ha0 : IsNum a0) (hp0 : IsNum p0) (g : M2) {b : M2} (h : f_Nu_addScaled a0 p0 p1 g = some b) : Ev Lx 223 cd_223 0 [some (.ref a0), some (.ref p0), some (.long p1), none] [] g (none, b) := by
  unfold f_Nu_addScaled at h
  refine ev_rn (n := 2) (i2 := 2) (L2 := [some (.ref a0), some (.ref p0), some (.long p1), none]) (st2 := [.ref a0, .ref a0]) (g2 := g) cdE_223 rfl ?_
  refine ev_gf (v := .long (g.2 a0 0)) rfl ha0 (by decide) rfl ?_
  refine ev_rn (n := 1) (i2 := 4) (L2 := [some (.ref a0), some (.ref p0), some (.long p1), none]) (st2 := [.ref p0, .long (g.2 a0 0), .ref a0]) (g2 := g) cdE_223 rfl ?_
  refine ev_gf (v := .long (g.2 p0 0)) rfl hp0 (by decide) rfl ?_
  refine ev_rn (n := 3) (i2 := 8) (L2 := [some (.ref a0), some (.ref p0), some (.long p1), none]) (st2 := [.long ((g.2 a0 0) + ((g.2 p0 0) * p1)), .ref a0]) (g2 := g) cdE_223 rfl ?_
  refine bd_elim h (fun g1 hg1 h => ?_)
  refine ev_pf (g2 := g1) rfl ha0 (by decide) (by rw [hg1] <;> rfl) ?_
  refine ev_rn (n := 2) (i2 := 11) (L2 := [some (.ref a0), some (.ref p0), some (.long p1), none]) (st2 := [.ref a0, .ref a0]) (g2 := g1) cdE_223 rfl ?_
  refine ev_gf (v := .long (g1.2 a0 1)) rfl ha0 (by decide) rfl ?_
  refine ev_rn (n := 1) (i2 := 13) (L2 := [some (.ref a0), some (.ref p0), some (.long p1), none]) (st2 := [.ref p0, .long (g1.2 a0 1), .ref a0]) (g2 := g1) cdE_223 rfl ?_
  refine ev_gf (v := .long (g1.2 p0 1)) rfl hp0 (by decide) rfl ?_
  refine ev_rn (n := 3) (i2 := 17) (L2 := [some (.ref a0), some (.ref p0), some (.long p1), none]) (st2 := [.long ((g1.2 a0 1) + ((g1.2 p0 1) * p1)), .ref a0]) (g2 := g1) cdE_223 rfl ?_
  refine bd_elim h (fun g2 hg2 h => ?_)
  refine ev_pf (g2 := g2) rfl ha0 (by decide) (by rw [hg2] <;> rfl) ?_
  refine ev_rn (n := 2) (i2 := 20) (L2 := [some (.ref a0), some (.ref p0), some (.long p1), none]) (st2 := [.ref a0, .ref a0]) (g2 := g2) cdE_223 rfl ?_
  refine ev_gf (v := .long (g2.2 a0 2)) rfl ha0 (by decide) rfl ?_
  refine ev_rn (n := 1) (i2 := 22) (L2 := [some (.ref a0), some (.ref p0), some (.long p1), none]) (st2 := [.ref p0, .long (g2.2 a0 2), .ref a0]) (g2 := g2) cdE_223 rfl ?_
  refine ev_gf (v := .long (g2.2 p0 2)) rfl hp0 (by decide) rfl ?_
  refine ev_rn (n := 3) (i2 := 26) (L2 := [some (.ref a0), some (.ref p0), some (.long p1), none]) (st2 := [.long ((g2.2 a0 2) + ((g2.2 p0 2) * p1)), .ref a0]) (g2 := g2) cdE_223 rfl ?_
  refine bd_elim h (fun g3 hg3 h => ?_)
  refine ev_pf (g2 := g3) rfl ha0 (by decide) (by rw [hg3] <;> rfl) ?_
  refine ev_rn (n := 2) (i2 := 29) (L2 := [some (.ref a0), some (.ref p0), some (.long p1), none]) (st2 := [.ref a0, .ref a0]) (g2 := g3) cdE_223 rfl ?_
  refine ev_gf (v := .long (g3.2 a0 3)) rfl ha0 (by decide) rfl ?_
  refine ev_rn (n := 1) (i2 := 31) (L2 := [some (.ref a0), some (.ref p0), some (.long p1), none]) (st2 := [.ref p0, .long (g3.2 a0 3), .ref a0]) (g2 := g3) cdE_223 rfl ?_
  refine ev_gf (v := .long (g3.2 p0 3)) rfl hp0 (by decide) rfl ?_
  refine ev_rn (n := 3) (i2 := 35) (L2 := [some (.ref a0), some (.ref p0), some (.long p1), none]) (st2 := [.long ((g3.2 a0 3) + ((g3.2 p0 3) * p1)), .ref a0]) (g2 := g3) cdE_223 rfl ?_
  refine bd_elim h (fun g4 hg4 h => ?_)
  refine ev_pf (g2 := g4) rfl ha0 (by decide) (by rw [hg4] <;> rfl) ?_
  cases h
  exact ev_ret rfl rfl
def f_Cu_missAt (p0 : Nat) (p1 : Int32) (p2 : Nat) (g : M2) : Option (M2) := ((f_Pl_hearBy (p0 + 1) 139 p1 p2 g).bind fun q1 => ((f_Nu_scale p2 (q1.2 p0 16) q1).bind fun q2 => (if inb p1 12 then ((f_Nu_addScaled p2 ((p0 + 49) + 1 + p1.toNatClampNeg) (-(q2.1 (p0 + 1) 6)).toInt64 q2).bind fun q4 => some q4) else none)))
theorem e_Cu_missAt {Lx : Nat} (p0 : Nat) (p1 : Int32) (p2 : Nat) (hp0 : IsSol p0) (hp2 : IsNum p2) (g : M2) {b : M2} (h : f_Cu_missAt p0 p1 p2 g = some b) : Ev Lx 224 cd_224 0 [some (.ref 138), some (.ref p0), some (.int p1), some (.ref p2)] [] g (none, b) := by
  unfold f_Cu_missAt at h
  refine ev_rn (n := 1) (i2 := 1) (L2 := [some (.ref 138), some (.ref p0), some (.int p1), some (.ref p2)]) (st2 := [.ref p0]) (g2 := g) cdE_224 rfl ?_
  refine ev_gf (v := .ref (p0 + 1)) rfl (so_at hp0) (by decide) rfl ?_
  refine ev_rn (n := 4) (i2 := 6) (L2 := [some (.ref 138), some (.ref p0), some (.int p1), some (.ref p2)]) (st2 := [.ref p2, .int p1, .ref 139, .ref (p0 + 1)]) (g2 := g) cdE_224 rfl ?_
  obtain ⟨q1, hq1, h⟩ := Option.bind_eq_some_iff.mp h
  refine ev_call rfl cdE_96 (cokV rfl rfl (pl_at (so_1 hp0)) rfl) rfl rfl (e_Pl_hearBy (p0 + 1) 139 p1 p2 (so_1 hp0) (na_139) hp2 g hq1) ?_
  refine ev_rn (n := 2) (i2 := 9) (L2 := [some (.ref 138), some (.ref p0), some (.int p1), some (.ref p2)]) (st2 := [.ref p0, .ref p2]) (g2 := q1) cdE_224 rfl ?_
  refine ev_gf (v := .long (q1.2 p0 16)) rfl (so_at hp0) (by decide) rfl ?_
  obtain ⟨q2, hq2, h⟩ := Option.bind_eq_some_iff.mp h
  refine ev_call rfl cdE_222 (cokV rfl rfl hp2 rfl) rfl rfl (e_Nu_scale p2 (q1.2 p0 16) hp2 q1 hq2) ?_
  refine ev_rn (n := 2) (i2 := 13) (L2 := [some (.ref 138), some (.ref p0), some (.int p1), some (.ref p2)]) (st2 := [.ref p0, .ref p2]) (g2 := q2) cdE_224 rfl ?_
  refine ev_gf (v := .ref (p0 + 49)) rfl (so_at hp0) (by decide) rfl ?_
  refine ev_rn (n := 1) (i2 := 15) (L2 := [some (.ref 138), some (.ref p0), some (.int p1), some (.ref p2)]) (st2 := [.int p1, .ref (p0 + 49), .ref p2]) (g2 := q2) cdE_224 rfl ?_
  by_cases hi3 : inb p1 12
  · rw [if_pos hi3] at h
    refine ev_aaload (v := .ref ((p0 + 49) + 1 + p1.toNatClampNeg)) rfl (kd_of (na_at (so_49 hp0))) (by decide) hi3 (na_rf (w := (p0 + 49)) hi3.2) ?_
    refine ev_rn (n := 1) (i2 := 17) (L2 := [some (.ref 138), some (.ref p0), some (.int p1), some (.ref p2)]) (st2 := [.ref p0, .ref ((p0 + 49) + 1 + p1.toNatClampNeg), .ref p2]) (g2 := q2) cdE_224 rfl ?_
    refine ev_gf (v := .ref (p0 + 1)) rfl (so_at hp0) (by decide) rfl ?_
    refine ev_gf (v := .int (q2.1 (p0 + 1) 6)) rfl (pl_at (so_1 hp0)) (by decide) rfl ?_
    refine ev_rn (n := 2) (i2 := 21) (L2 := [some (.ref 138), some (.ref p0), some (.int p1), some (.ref p2)]) (st2 := [.long (-(q2.1 (p0 + 1) 6)).toInt64, .ref ((p0 + 49) + 1 + p1.toNatClampNeg), .ref p2]) (g2 := q2) cdE_224 rfl ?_
    obtain ⟨q4, hq4, h⟩ := Option.bind_eq_some_iff.mp h
    refine ev_call rfl cdE_223 (cokV rfl rfl hp2 rfl) rfl rfl (e_Nu_addScaled p2 ((p0 + 49) + 1 + p1.toNatClampNeg) (-(q2.1 (p0 + 1) 6)).toInt64 hp2 (na_el (so_49 hp0) hi3.2) q2 hq4) ?_
    cases h
    exact ev_ret rfl rfl
  · rw [if_neg hi3] at h
    cases h
def f_Da_error (p0 : Int32) (p1 : Int32) (g : M2) : Option (Int64 × M2) := ((f_Da_refresh g).bind fun q1 => (if (q1.1 6 13) = 0 then some ((-9223372036854775808 : Int64), q1) else (if (f_Da_isDirection p0 q1) = 0 then some ((-9223372036854775808 : Int64), q1) else ((f_Cu_roundAll 6 (q1.1 7 6) q1).bind fun q4 => ((f_Cu_missAt 6 p0 155 q4).bind fun q5 => ((f_Da_realPart (f_Nu_powerX 155 q5) (f_Nu_powerY 155 q5) (((q5.2 6 16) * (q5.1 7 6).toInt64) * ((q5.2 6 16) * (q5.1 7 6).toInt64)) p1 q5).bind fun q6 => some (q6, q5)))))))
theorem e_Da_error {Lx : Nat} (p0 : Int32) (p1 : Int32)  (g : M2) {b : (Int64 × M2)} (h : f_Da_error p0 p1 g = some b) : Ev Lx 225 cd_225 0 [some (.ref 0), some (.int p0), some (.int p1)] [] g (some (.long b.1), b.2) := by
  unfold f_Da_error at h
  refine ev_rn (n := 1) (i2 := 1) (L2 := [some (.ref 0), some (.int p0), some (.int p1)]) (st2 := [.ref 0]) (g2 := g) cdE_225 rfl ?_
  obtain ⟨q1, hq1, h⟩ := Option.bind_eq_some_iff.mp h
  refine ev_call rfl cdE_100 rfl rfl rfl (e_Da_refresh   g hq1) ?_
  refine ev_rn (n := 3) (i2 := 5) (L2 := [some (.ref 0), some (.int p0), some (.int p1)]) (st2 := [.int (q1.1 6 13)]) (g2 := q1) cdE_225 rfl ?_
  by_cases hc2 : (q1.1 6 13) = 0
  · rw [if_pos hc2] at h
    refine ev_zft cdE_225 rfl (cn_t hc2) ?_
    refine ev_rn (n := 1) (i2 := 10) (L2 := [some (.ref 0), some (.int p0), some (.int p1)]) (st2 := [.long (-9223372036854775808 : Int64)]) (g2 := q1) cdE_225 rfl ?_
    cases h
    exact ev_ret rfl rfl
  · rw [if_neg hc2] at h
    refine ev_zff rfl (cn_f hc2) ?_
    refine ev_rn (n := 1) (i2 := 7) (L2 := [some (.ref 0), some (.int p0), some (.int p1)]) (st2 := [.int p0]) (g2 := q1) cdE_225 rfl ?_
    refine ev_call rfl cdE_71 rfl rfl rfl (e_Da_isDirection p0  q1 rfl) ?_
    by_cases hc3 : (f_Da_isDirection p0 q1) = 0
    · rw [if_pos hc3] at h
      refine ev_zff rfl (cn_f (fun q => q hc3)) ?_
      refine ev_rn (n := 1) (i2 := 10) (L2 := [some (.ref 0), some (.int p0), some (.int p1)]) (st2 := [.long (-9223372036854775808 : Int64)]) (g2 := q1) cdE_225 rfl ?_
      cases h
      exact ev_ret rfl rfl
    · rw [if_neg hc3] at h
      refine ev_zft cdE_225 rfl (cn_t hc3) ?_
      refine ev_rn (n := 8) (i2 := 19) (L2 := [some (.ref 0), some (.int p0), some (.int p1)]) (st2 := [.int (q1.1 7 6), .ref 6, .ref 138]) (g2 := q1) cdE_225 rfl ?_
      obtain ⟨q4, hq4, h⟩ := Option.bind_eq_some_iff.mp h
      refine ev_call rfl cdE_212 rfl rfl rfl (e_Cu_roundAll 6 (q1.1 7 6) (by decide) q1 hq4) ?_
      refine ev_rn (n := 7) (i2 := 27) (L2 := [some (.ref 0), some (.int p0), some (.int p1)]) (st2 := [.ref 155, .int p0, .ref 6, .ref 138]) (g2 := q4) cdE_225 rfl ?_
      obtain ⟨q5, hq5, h⟩ := Option.bind_eq_some_iff.mp h
      refine ev_call rfl cdE_224 rfl rfl rfl (e_Cu_missAt 6 p0 155 (by decide) (num_lit 155 rfl) q4 hq5) ?_
      refine ev_rn (n := 10) (i2 := 38) (L2 := [some (.ref 0), some (.int p0), some (.int p1), some (.long ((q5.2 6 16) * (q5.1 7 6).toInt64)), none]) (st2 := []) (g2 := q5) cdE_225 rfl ?_
      refine ev_rn (n := 2) (i2 := 40) (L2 := [some (.ref 0), some (.int p0), some (.int p1), some (.long ((q5.2 6 16) * (q5.1 7 6).toInt64)), none]) (st2 := [.ref 155]) (g2 := q5) cdE_225 rfl ?_
      refine ev_call rfl cdE_97 rfl rfl rfl (e_Nu_powerX 155 (num_lit 155 rfl) q5 rfl) ?_
      refine ev_rn (n := 2) (i2 := 43) (L2 := [some (.ref 0), some (.int p0), some (.int p1), some (.long ((q5.2 6 16) * (q5.1 7 6).toInt64)), none]) (st2 := [.ref 155, .long (f_Nu_powerX 155 q5)]) (g2 := q5) cdE_225 rfl ?_
      refine ev_call rfl cdE_98 rfl rfl rfl (e_Nu_powerY 155 (num_lit 155 rfl) q5 rfl) ?_
      refine ev_rn (n := 4) (i2 := 48) (L2 := [some (.ref 0), some (.int p0), some (.int p1), some (.long ((q5.2 6 16) * (q5.1 7 6).toInt64)), none]) (st2 := [.int p1, .long (((q5.2 6 16) * (q5.1 7 6).toInt64) * ((q5.2 6 16) * (q5.1 7 6).toInt64)), .long (f_Nu_powerY 155 q5), .long (f_Nu_powerX 155 q5)]) (g2 := q5) cdE_225 rfl ?_
      obtain ⟨q6, hq6, h⟩ := Option.bind_eq_some_iff.mp h
      refine ev_call rfl cdE_135 rfl rfl rfl (e_Da_realPart (f_Nu_powerX 155 q5) (f_Nu_powerY 155 q5) (((q5.2 6 16) * (q5.1 7 6).toInt64) * ((q5.2 6 16) * (q5.1 7 6).toInt64)) p1  q5 hq6) ?_
      cases h
      exact ev_ret rfl rfl
def b_Mo_laysError_5 (v1 : Int32) (v2 : Int32) (g : M2) : Option ((Int32 × M2) ⊕ M2) := (if (4 : Int32) ≤ v2 then some (.inr g) else (if inb ((348 : Int32) + v2) 352 then ((f_Mo_part ((67 : Int32) + v1) v2 g).bind fun q4 => (if inb ((348 : Int32) + v2) 352 then (bd (uJ g 158 ((348 : Int32) + v2).toNatClampNeg (((g.2 158 ((348 : Int32) + v2).toNatClampNeg) * (g.2 157 16)) - (q4 * (g.1 160 0).toInt64))) fun g5 => some (.inl ((v2 + (1 : Int32)), g5))) else none)) else none))
theorem tb_Mo_laysError_5 {Lx : Nat} (v1 : Int32)  (v2 : Int32) (g : M2) {b : (Int32 × M2) ⊕ M2} {o : Option Value × M2} (h : b_Mo_laysError_5 v1 v2 g = some b) (hb : Sum.elim (fun s => Ev Lx 226 cd_226 5 [some (.ref 157), some (.int v1), some (.int s.1)] [] s.2 o) (fun e => Ev Lx 226 cd_226 38 [some (.ref 157)] [] e o) b) : Ev Lx 226 cd_226 5 [some (.ref 157), some (.int v1), some (.int v2)] [] g o := by
  unfold b_Mo_laysError_5 at h
  refine ev_rn (n := 2) (i2 := 7) (L2 := [some (.ref 157), some (.int v1), some (.int v2)]) (st2 := [.int (4 : Int32), .int v2]) (g2 := g) cdE_226 rfl ?_
  by_cases hc2 : (4 : Int32) ≤ v2
  · rw [if_pos hc2] at h
    refine ev_ift cdE_226 rfl (cn_t hc2) ?_
    cases h
    exact ev_wk (L := [some (.ref 157)]) hb ⟨rfl, trivial⟩
  · rw [if_neg hc2] at h
    refine ev_iff rfl (cn_f hc2) ?_
    refine ev_rn (n := 10) (i2 := 18) (L2 := [some (.ref 157), some (.int v1), some (.int v2)]) (st2 := [.int ((348 : Int32) + v2), .ref 158, .int ((348 : Int32) + v2), .ref 158]) (g2 := g) cdE_226 rfl ?_
    by_cases hi3 : inb ((348 : Int32) + v2) 352
    · rw [if_pos hi3] at h
      refine ev_laload (v := .long (g.2 158 ((348 : Int32) + v2).toNatClampNeg)) rfl (kd_of (show S0[158]? = some (101, 352, List.replicate 352 none) from rfl)) (by decide) hi3 rfl ?_
      refine ev_rn (n := 8) (i2 := 27) (L2 := [some (.ref 157), some (.int v1), some (.int v2)]) (st2 := [.int v2, .int ((67 : Int32) + v1), .ref 157, .long ((g.2 158 ((348 : Int32) + v2).toNatClampNeg) * (g.2 157 16)), .int ((348 : Int32) + v2), .ref 158]) (g2 := g) cdE_226 rfl ?_
      obtain ⟨q4, hq4, h⟩ := Option.bind_eq_some_iff.mp h
      refine ev_call rfl cdE_110 rfl rfl rfl (e_Mo_part ((67 : Int32) + v1) v2  g hq4) ?_
      refine ev_rn (n := 3) (i2 := 31) (L2 := [some (.ref 157), some (.int v1), some (.int v2)]) (st2 := [.int (0 : Int32), .ref 160, .long q4, .long ((g.2 158 ((348 : Int32) + v2).toNatClampNeg) * (g.2 157 16)), .int ((348 : Int32) + v2), .ref 158]) (g2 := g) cdE_226 rfl ?_
      refine ev_iaload (v := .int (g.1 160 0)) rfl (kd_of (show S0[160]? = some (100, 19, List.replicate 19 none) from rfl)) (by decide) ⟨by decide, by decide⟩ rfl ?_
      refine ev_rn (n := 3) (i2 := 35) (L2 := [some (.ref 157), some (.int v1), some (.int v2)]) (st2 := [.long (((g.2 158 ((348 : Int32) + v2).toNatClampNeg) * (g.2 157 16)) - (q4 * (g.1 160 0).toInt64)), .int ((348 : Int32) + v2), .ref 158]) (g2 := g) cdE_226 rfl ?_
      by_cases hi6 : inb ((348 : Int32) + v2) 352
      · rw [if_pos hi6] at h
        refine bd_elim h (fun g5 hg5 h => ?_)
        refine ev_lastore (g2 := g5) rfl (show S0[158]? = some (101, 352, List.replicate 352 none) from rfl) (by decide) hi6 (by rw [hg5] <;> rfl) ?_
        refine ev_rn (n := 2) (i2 := 5) (L2 := [some (.ref 157), some (.int v1), some (.int (v2 + (1 : Int32)))]) (st2 := []) (g2 := g5) cdE_226 rfl ?_
        cases h
        exact ev_wk (L := [some (.ref 157), some (.int v1), some (.int (v2 + (1 : Int32)))]) hb ⟨rfl, ⟨rfl, ⟨rfl, trivial⟩⟩⟩
      · rw [if_neg hi6] at h
        cases h
    · rw [if_neg hi3] at h
      cases h
def f_Mo_laysError (p0 : Int32) (g : M2) : Option (M2) := ((f_Mo_laysCutGain p0 g).bind fun q1 => ((lp (fun s => b_Mo_laysError_5 p0 s.1 s.2) 5000 ((0 : Int32), q1)).bind fun e7 => ((f_Mo_laysPower (87 : Int32) e7).bind fun q8 => some q8)))
theorem e_Mo_laysError {Lx : Nat} (p0 : Int32)  (g : M2) {b : M2} (h : f_Mo_laysError p0 g = some b) : Ev Lx 226 cd_226 0 [some (.ref 157), some (.int p0)] [] g (none, b) := by
  unfold f_Mo_laysError at h
  refine ev_rn (n := 2) (i2 := 2) (L2 := [some (.ref 157), some (.int p0)]) (st2 := [.int p0, .ref 157]) (g2 := g) cdE_226 rfl ?_
  obtain ⟨q1, hq1, h⟩ := Option.bind_eq_some_iff.mp h
  refine ev_call rfl cdE_218 rfl rfl rfl (e_Mo_laysCutGain p0  g hq1) ?_
  refine ev_rn (n := 2) (i2 := 5) (L2 := [some (.ref 157), some (.int p0), some (.int (0 : Int32))]) (st2 := []) (g2 := q1) cdE_226 rfl ?_
  obtain ⟨e7, he7, h⟩ := Option.bind_eq_some_iff.mp h
  have hX9 : Ev Lx 226 cd_226 38 [some (.ref 157)] [] e7 (none, b) := by
    refine ev_rn (n := 2) (i2 := 40) (L2 := [some (.ref 157)]) (st2 := [.int (87 : Int32), .ref 157]) (g2 := e7) cdE_226 rfl ?_
    obtain ⟨q8, hq8, h⟩ := Option.bind_eq_some_iff.mp h
    refine ev_call rfl cdE_137 rfl rfl rfl (e_Mo_laysPower (87 : Int32)  e7 hq8) ?_
    cases h
    exact ev_ret rfl rfl
  exact ev_wk (L := [some (.ref 157), some (.int p0), some (.int (0 : Int32))]) (lp_ind (P := (fun (s : (Int32 × M2)) => Ev Lx 226 cd_226 5 [some (.ref 157), some (.int p0), some (.int s.1)] [] s.2 (none, b))) (fun s s2 hs hP => tb_Mo_laysError_5 p0  s.1 s.2 (b := .inl s2) hs hP) (fun s hs => tb_Mo_laysError_5 p0  s.1 s.2 (b := .inr e7) hs hX9) _ _ he7) ⟨rfl, ⟨rfl, ⟨rfl, trivial⟩⟩⟩
def f_Mo_error (p0 : Int32) (p1 : Int32) (g : M2) : Option (Int64 × M2) := (if (f_Mo_isDirection p0 g) = 0 then some ((-9223372036854775808 : Int64), g) else (if (f_Mo_in p1.toInt64 (0 : Int64) (2 : Int64) g) = 0 then some ((-9223372036854775808 : Int64), g) else ((f_Mo_cutsNow g).bind fun q3 => (if q3.1 = 0 then some ((-9223372036854775808 : Int64), q3.2) else ((f_Mo_laysError p0 q3.2).bind fun q5 => ((f_Mo_toldPower (q5.2 157 3) (q5.2 157 4) (((q5.2 157 16) * (q5.1 160 0).toInt64) * ((q5.2 157 16) * (q5.1 160 0).toInt64)) p1 q5).bind fun q6 => some (q6, q5)))))))
theorem e_Mo_error {Lx : Nat} (p0 : Int32) (p1 : Int32)  (g : M2) {b : (Int64 × M2)} (h : f_Mo_error p0 p1 g = some b) : Ev Lx 227 cd_227 0 [some (.ref 157), some (.int p0), some (.int p1)] [] g (some (.long b.1), b.2) := by
  unfold f_Mo_error at h
  refine ev_rn (n := 1) (i2 := 1) (L2 := [some (.ref 157), some (.int p0), some (.int p1)]) (st2 := [.int p0]) (g2 := g) cdE_227 rfl ?_
  refine ev_call rfl cdE_73 rfl rfl rfl (e_Mo_isDirection p0  g rfl) ?_
  by_cases hc1 : (f_Mo_isDirection p0 g) = 0
  · rw [if_pos hc1] at h
    refine ev_zft cdE_227 rfl (cn_t hc1) ?_
    refine ev_rn (n := 1) (i2 := 13) (L2 := [some (.ref 157), some (.int p0), some (.int p1)]) (st2 := [.long (-9223372036854775808 : Int64)]) (g2 := g) cdE_227 rfl ?_
    cases h
    exact ev_ret rfl rfl
  · rw [if_neg hc1] at h
    refine ev_zff rfl (cn_f hc1) ?_
    refine ev_rn (n := 4) (i2 := 7) (L2 := [some (.ref 157), some (.int p0), some (.int p1)]) (st2 := [.long (2 : Int64), .long (0 : Int64), .long p1.toInt64]) (g2 := g) cdE_227 rfl ?_
    refine ev_call rfl cdE_16 rfl rfl rfl (e_Mo_in p1.toInt64 (0 : Int64) (2 : Int64)  g rfl) ?_
    by_cases hc2 : (f_Mo_in p1.toInt64 (0 : Int64) (2 : Int64) g) = 0
    · rw [if_pos hc2] at h
      refine ev_zft cdE_227 rfl (cn_t hc2) ?_
      refine ev_rn (n := 1) (i2 := 13) (L2 := [some (.ref 157), some (.int p0), some (.int p1)]) (st2 := [.long (-9223372036854775808 : Int64)]) (g2 := g) cdE_227 rfl ?_
      cases h
      exact ev_ret rfl rfl
    · rw [if_neg hc2] at h
      refine ev_zff rfl (cn_f hc2) ?_
      refine ev_rn (n := 1) (i2 := 10) (L2 := [some (.ref 157), some (.int p0), some (.int p1)]) (st2 := [.ref 157]) (g2 := g) cdE_227 rfl ?_
      obtain ⟨q3, hq3, h⟩ := Option.bind_eq_some_iff.mp h
      refine ev_call rfl cdE_215 rfl rfl rfl (e_Mo_cutsNow   g hq3) ?_
      by_cases hc4 : q3.1 = 0
      · rw [if_pos hc4] at h
        refine ev_zff rfl (cn_f (fun q => q hc4)) ?_
        refine ev_rn (n := 1) (i2 := 13) (L2 := [some (.ref 157), some (.int p0), some (.int p1)]) (st2 := [.long (-9223372036854775808 : Int64)]) (g2 := q3.2) cdE_227 rfl ?_
        cases h
        exact ev_ret rfl rfl
      · rw [if_neg hc4] at h
        refine ev_zft cdE_227 rfl (cn_t hc4) ?_
        refine ev_rn (n := 2) (i2 := 16) (L2 := [some (.ref 157), some (.int p0), some (.int p1)]) (st2 := [.int p0, .ref 157]) (g2 := q3.2) cdE_227 rfl ?_
        obtain ⟨q5, hq5, h⟩ := Option.bind_eq_some_iff.mp h
        refine ev_call rfl cdE_226 rfl rfl rfl (e_Mo_laysError p0  q3.2 hq5) ?_
        refine ev_rn (n := 5) (i2 := 22) (L2 := [some (.ref 157), some (.int p0), some (.int p1)]) (st2 := [.int (0 : Int32), .ref 160, .long (q5.2 157 16)]) (g2 := q5) cdE_227 rfl ?_
        refine ev_iaload (v := .int (q5.1 160 0)) rfl (kd_of (show S0[160]? = some (100, 19, List.replicate 19 none) from rfl)) (by decide) ⟨by decide, by decide⟩ rfl ?_
        refine ev_rn (n := 3) (i2 := 26) (L2 := [some (.ref 157), some (.int p0), some (.int p1), some (.long ((q5.2 157 16) * (q5.1 160 0).toInt64)), none]) (st2 := []) (g2 := q5) cdE_227 rfl ?_
        refine ev_rn (n := 9) (i2 := 35) (L2 := [some (.ref 157), some (.int p0), some (.int p1), some (.long ((q5.2 157 16) * (q5.1 160 0).toInt64)), none]) (st2 := [.int p1, .long (((q5.2 157 16) * (q5.1 160 0).toInt64) * ((q5.2 157 16) * (q5.1 160 0).toInt64)), .long (q5.2 157 4), .long (q5.2 157 3), .ref 157]) (g2 := q5) cdE_227 rfl ?_
        obtain ⟨q6, hq6, h⟩ := Option.bind_eq_some_iff.mp h
        refine ev_call rfl cdE_138 rfl rfl rfl (e_Mo_toldPower (q5.2 157 3) (q5.2 157 4) (((q5.2 157 16) * (q5.1 160 0).toInt64) * ((q5.2 157 16) * (q5.1 160 0).toInt64)) p1  q5 hq6) ?_
        cases h
        exact ev_ret rfl rfl
def b_Da_farthest_22  (v1 : Int32) (g : M2) : Option ((Int32 × M2) ⊕ M2) := (if (12 : Int32) ≤ v1 then some (.inr g) else ((f_Cu_missAt 6 v1 155 g).bind fun q6 => ((f_Gr_offer 155 v1 q6).bind fun q7 => some (.inl ((v1 + (1 : Int32)), q7)))))
theorem tb_Da_farthest_22 {Lx : Nat}   (v1 : Int32) (g : M2) {b : (Int32 × M2) ⊕ M2} {o : Option Value × M2} (h : b_Da_farthest_22 v1 g = some b) (hb : Sum.elim (fun s => Ev Lx 228 cd_228 22 [some (.ref 0), some (.int s.1)] [] s.2 o) (fun e => Ev Lx 228 cd_228 41 [some (.ref 0)] [] e o) b) : Ev Lx 228 cd_228 22 [some (.ref 0), some (.int v1)] [] g o := by
  unfold b_Da_farthest_22 at h
  refine ev_rn (n := 2) (i2 := 24) (L2 := [some (.ref 0), some (.int v1)]) (st2 := [.int (12 : Int32), .int v1]) (g2 := g) cdE_228 rfl ?_
  by_cases hc5 : (12 : Int32) ≤ v1
  · rw [if_pos hc5] at h
    refine ev_ift cdE_228 rfl (cn_t hc5) ?_
    cases h
    exact ev_wk (L := [some (.ref 0)]) hb ⟨rfl, trivial⟩
  · rw [if_neg hc5] at h
    refine ev_iff rfl (cn_f hc5) ?_
    refine ev_rn (n := 7) (i2 := 32) (L2 := [some (.ref 0), some (.int v1)]) (st2 := [.ref 155, .int v1, .ref 6, .ref 138]) (g2 := g) cdE_228 rfl ?_
    obtain ⟨q6, hq6, h⟩ := Option.bind_eq_some_iff.mp h
    refine ev_call rfl cdE_224 rfl rfl rfl (e_Cu_missAt 6 v1 155 (by decide) (num_lit 155 rfl) g hq6) ?_
    refine ev_rn (n := 5) (i2 := 38) (L2 := [some (.ref 0), some (.int v1)]) (st2 := [.int v1, .ref 155, .ref 152]) (g2 := q6) cdE_228 rfl ?_
    obtain ⟨q7, hq7, h⟩ := Option.bind_eq_some_iff.mp h
    refine ev_call rfl cdE_174 rfl rfl rfl (e_Gr_offer 155 v1 (num_lit 155 rfl) q6 hq7) ?_
    refine ev_rn (n := 2) (i2 := 22) (L2 := [some (.ref 0), some (.int (v1 + (1 : Int32)))]) (st2 := []) (g2 := q7) cdE_228 rfl ?_
    cases h
    exact ev_wk (L := [some (.ref 0), some (.int (v1 + (1 : Int32)))]) hb ⟨rfl, ⟨rfl, trivial⟩⟩
def f_Da_farthest  (g : M2) : Option (Int32 × M2) := ((f_Da_refresh g).bind fun q1 => (if (q1.1 6 13) = 0 then some ((-2 : Int32), q1) else ((f_Cu_roundAll 6 (q1.1 7 6) q1).bind fun q3 => ((f_Gr_clear q3).bind fun q4 => ((lp (fun s => b_Da_farthest_22  s.1 s.2) 5000 ((0 : Int32), q4)).bind fun e8 => some ((e8.1 152 0), e8))))))
theorem e_Da_farthest {Lx : Nat}   (g : M2) {b : (Int32 × M2)} (h : f_Da_farthest  g = some b) : Ev Lx 228 cd_228 0 [some (.ref 0)] [] g (some (.int b.1), b.2) := by
  unfold f_Da_farthest at h
  refine ev_rn (n := 1) (i2 := 1) (L2 := [some (.ref 0)]) (st2 := [.ref 0]) (g2 := g) cdE_228 rfl ?_
  obtain ⟨q1, hq1, h⟩ := Option.bind_eq_some_iff.mp h
  refine ev_call rfl cdE_100 rfl rfl rfl (e_Da_refresh   g hq1) ?_
  refine ev_rn (n := 3) (i2 := 5) (L2 := [some (.ref 0)]) (st2 := [.int (q1.1 6 13)]) (g2 := q1) cdE_228 rfl ?_
  by_cases hc2 : (q1.1 6 13) = 0
  · rw [if_pos hc2] at h
    refine ev_zff rfl (cn_f (fun q => q hc2)) ?_
    refine ev_rn (n := 1) (i2 := 7) (L2 := [some (.ref 0)]) (st2 := [.int (-2 : Int32)]) (g2 := q1) cdE_228 rfl ?_
    cases h
    exact ev_ret rfl rfl
  · rw [if_neg hc2] at h
    refine ev_zft cdE_228 rfl (cn_t hc2) ?_
    refine ev_rn (n := 8) (i2 := 16) (L2 := [some (.ref 0)]) (st2 := [.int (q1.1 7 6), .ref 6, .ref 138]) (g2 := q1) cdE_228 rfl ?_
    obtain ⟨q3, hq3, h⟩ := Option.bind_eq_some_iff.mp h
    refine ev_call rfl cdE_212 rfl rfl rfl (e_Cu_roundAll 6 (q1.1 7 6) (by decide) q1 hq3) ?_
    refine ev_rn (n := 2) (i2 := 19) (L2 := [some (.ref 0)]) (st2 := [.ref 152]) (g2 := q3) cdE_228 rfl ?_
    obtain ⟨q4, hq4, h⟩ := Option.bind_eq_some_iff.mp h
    refine ev_call rfl cdE_173 rfl rfl rfl (e_Gr_clear   q3 hq4) ?_
    refine ev_rn (n := 2) (i2 := 22) (L2 := [some (.ref 0), some (.int (0 : Int32))]) (st2 := []) (g2 := q4) cdE_228 rfl ?_
    obtain ⟨e8, he8, h⟩ := Option.bind_eq_some_iff.mp h
    have hX9 : Ev Lx 228 cd_228 41 [some (.ref 0)] [] e8 (some (.int b.1), b.2) := by
      refine ev_rn (n := 3) (i2 := 44) (L2 := [some (.ref 0)]) (st2 := [.int (e8.1 152 0)]) (g2 := e8) cdE_228 rfl ?_
      cases h
      exact ev_ret rfl rfl
    exact ev_wk (L := [some (.ref 0), some (.int (0 : Int32))]) (lp_ind (P := (fun (s : (Int32 × M2)) => Ev Lx 228 cd_228 22 [some (.ref 0), some (.int s.1)] [] s.2 (some (.int b.1), b.2))) (fun s s2 hs hP => tb_Da_farthest_22   s.1 s.2 (b := .inl s2) hs hP) (fun s hs => tb_Da_farthest_22   s.1 s.2 (b := .inr e8) hs hX9) _ _ he8) ⟨rfl, ⟨rfl, trivial⟩⟩
def b_Mo_farthest_13  (v1 : Int32) (v2 : Int64) (v4 : Int64) (v6 : Int32) (g : M2) : Option ((Int32 × Int64 × Int64 × Int32 × M2) ⊕ (Int32 × M2)) := (if (12 : Int32) ≤ v6 then some (.inr (v1, g)) else ((f_Mo_laysError v6 g).bind fun q4 => (if v1 = (-1 : Int32) then some (.inl (v6, (q4.2 157 3), (q4.2 157 4), (v6 + (1 : Int32)), q4)) else ((f_Mo_signOf ((q4.2 157 3) - v2) ((q4.2 157 4) - v4) q4).bind fun q6 => (if 0 < q6 then some (.inl (v6, (q4.2 157 3), (q4.2 157 4), (v6 + (1 : Int32)), q4)) else some (.inl (v1, v2, v4, (v6 + (1 : Int32)), q4)))))))
theorem tb_Mo_farthest_13 {Lx : Nat}   (v1 : Int32) (v2 : Int64) (v4 : Int64) (v6 : Int32) (g : M2) {b : (Int32 × Int64 × Int64 × Int32 × M2) ⊕ (Int32 × M2)} {o : Option Value × M2} (h : b_Mo_farthest_13 v1 v2 v4 v6 g = some b) (hb : Sum.elim (fun s => Ev Lx 229 cd_229 13 [some (.ref 157), some (.int s.1), some (.long s.2.1), none, some (.long s.2.2.1), none, some (.int s.2.2.2.1)] [] s.2.2.2.2 o) (fun e => Ev Lx 229 cd_229 43 [none, some (.int e.1)] [] e.2 o) b) : Ev Lx 229 cd_229 13 [some (.ref 157), some (.int v1), some (.long v2), none, some (.long v4), none, some (.int v6)] [] g o := by
  unfold b_Mo_farthest_13 at h
  refine ev_rn (n := 2) (i2 := 15) (L2 := [some (.ref 157), some (.int v1), some (.long v2), none, some (.long v4), none, some (.int v6)]) (st2 := [.int (12 : Int32), .int v6]) (g2 := g) cdE_229 rfl ?_
  by_cases hc3 : (12 : Int32) ≤ v6
  · rw [if_pos hc3] at h
    refine ev_ift cdE_229 rfl (cn_t hc3) ?_
    cases h
    exact ev_wk (L := [none, some (.int v1)]) hb ⟨rfl, trivial⟩
  · rw [if_neg hc3] at h
    refine ev_iff rfl (cn_f hc3) ?_
    refine ev_rn (n := 2) (i2 := 18) (L2 := [some (.ref 157), some (.int v1), some (.long v2), none, some (.long v4), none, some (.int v6)]) (st2 := [.int v6, .ref 157]) (g2 := g) cdE_229 rfl ?_
    obtain ⟨q4, hq4, h⟩ := Option.bind_eq_some_iff.mp h
    refine ev_call rfl cdE_226 rfl rfl rfl (e_Mo_laysError v6  g hq4) ?_
    refine ev_rn (n := 2) (i2 := 21) (L2 := [some (.ref 157), some (.int v1), some (.long v2), none, some (.long v4), none, some (.int v6)]) (st2 := [.int (-1 : Int32), .int v1]) (g2 := q4) cdE_229 rfl ?_
    by_cases hc5 : v1 = (-1 : Int32)
    · rw [if_pos hc5] at h
      refine ev_ift cdE_229 rfl (cn_t hc5) ?_
      refine ev_rn (n := 5) (i2 := 38) (L2 := [some (.ref 157), some (.int v6), some (.long (q4.2 157 3)), none, some (.long v4), none, some (.int v6)]) (st2 := []) (g2 := q4) cdE_229 rfl ?_
      refine ev_rn (n := 3) (i2 := 41) (L2 := [some (.ref 157), some (.int v6), some (.long (q4.2 157 3)), none, some (.long (q4.2 157 4)), none, some (.int v6)]) (st2 := []) (g2 := q4) cdE_229 rfl ?_
      refine ev_rn (n := 2) (i2 := 13) (L2 := [some (.ref 157), some (.int v6), some (.long (q4.2 157 3)), none, some (.long (q4.2 157 4)), none, some (.int (v6 + (1 : Int32)))]) (st2 := []) (g2 := q4) cdE_229 rfl ?_
      cases h
      exact ev_wk (L := [some (.ref 157), some (.int v6), some (.long (q4.2 157 3)), none, some (.long (q4.2 157 4)), none, some (.int (v6 + (1 : Int32)))]) hb ⟨rfl, ⟨rfl, ⟨rfl, ⟨rfl, ⟨rfl, trivial⟩⟩⟩⟩⟩
    · rw [if_neg hc5] at h
      refine ev_iff rfl (cn_f hc5) ?_
      refine ev_rn (n := 8) (i2 := 30) (L2 := [some (.ref 157), some (.int v1), some (.long v2), none, some (.long v4), none, some (.int v6)]) (st2 := [.long ((q4.2 157 4) - v4), .long ((q4.2 157 3) - v2)]) (g2 := q4) cdE_229 rfl ?_
      obtain ⟨q6, hq6, h⟩ := Option.bind_eq_some_iff.mp h
      refine ev_call rfl cdE_148 rfl rfl rfl (e_Mo_signOf ((q4.2 157 3) - v2) ((q4.2 157 4) - v4)  q4 hq6) ?_
      by_cases hc7 : 0 < q6
      · rw [if_pos hc7] at h
        refine ev_zft cdE_229 rfl (cn_t hc7) ?_
        refine ev_rn (n := 5) (i2 := 38) (L2 := [some (.ref 157), some (.int v6), some (.long (q4.2 157 3)), none, some (.long v4), none, some (.int v6)]) (st2 := []) (g2 := q4) cdE_229 rfl ?_
        refine ev_rn (n := 3) (i2 := 41) (L2 := [some (.ref 157), some (.int v6), some (.long (q4.2 157 3)), none, some (.long (q4.2 157 4)), none, some (.int v6)]) (st2 := []) (g2 := q4) cdE_229 rfl ?_
        refine ev_rn (n := 2) (i2 := 13) (L2 := [some (.ref 157), some (.int v6), some (.long (q4.2 157 3)), none, some (.long (q4.2 157 4)), none, some (.int (v6 + (1 : Int32)))]) (st2 := []) (g2 := q4) cdE_229 rfl ?_
        cases h
        exact ev_wk (L := [some (.ref 157), some (.int v6), some (.long (q4.2 157 3)), none, some (.long (q4.2 157 4)), none, some (.int (v6 + (1 : Int32)))]) hb ⟨rfl, ⟨rfl, ⟨rfl, ⟨rfl, ⟨rfl, trivial⟩⟩⟩⟩⟩
      · rw [if_neg hc7] at h
        refine ev_zff rfl (cn_f hc7) ?_
        refine ev_rn (n := 3) (i2 := 13) (L2 := [some (.ref 157), some (.int v1), some (.long v2), none, some (.long v4), none, some (.int (v6 + (1 : Int32)))]) (st2 := []) (g2 := q4) cdE_229 rfl ?_
        cases h
        exact ev_wk (L := [some (.ref 157), some (.int v1), some (.long v2), none, some (.long v4), none, some (.int (v6 + (1 : Int32)))]) hb ⟨rfl, ⟨rfl, ⟨rfl, ⟨rfl, ⟨rfl, trivial⟩⟩⟩⟩⟩
def f_Mo_farthest  (g : M2) : Option (Int32 × M2) := ((f_Mo_cutsNow g).bind fun q1 => (if q1.1 = 0 then some ((-2 : Int32), q1.2) else ((lp (fun s => b_Mo_farthest_13  s.1 s.2.1 s.2.2.1 s.2.2.2.1 s.2.2.2.2) 5000 ((-1 : Int32), (0 : Int64), (0 : Int64), (0 : Int32), q1.2)).bind fun e8 => some (e8.1, e8.2))))
theorem e_Mo_farthest {Lx : Nat}   (g : M2) {b : (Int32 × M2)} (h : f_Mo_farthest  g = some b) : Ev Lx 229 cd_229 0 [some (.ref 157)] [] g (some (.int b.1), b.2) := by
  unfold f_Mo_farthest at h
  refine ev_rn (n := 1) (i2 := 1) (L2 := [some (.ref 157)]) (st2 := [.ref 157]) (g2 := g) cdE_229 rfl ?_
  obtain ⟨q1, hq1, h⟩ := Option.bind_eq_some_iff.mp h
  refine ev_call rfl cdE_215 rfl rfl rfl (e_Mo_cutsNow   g hq1) ?_
  by_cases hc2 : q1.1 = 0
  · rw [if_pos hc2] at h
    refine ev_zff rfl (cn_f (fun q => q hc2)) ?_
    refine ev_rn (n := 1) (i2 := 4) (L2 := [some (.ref 157)]) (st2 := [.int (-2 : Int32)]) (g2 := q1.2) cdE_229 rfl ?_
    cases h
    exact ev_ret rfl rfl
  · rw [if_neg hc2] at h
    refine ev_zft cdE_229 rfl (cn_t hc2) ?_
    refine ev_rn (n := 4) (i2 := 9) (L2 := [some (.ref 157), some (.int (-1 : Int32)), some (.long (0 : Int64)), none]) (st2 := []) (g2 := q1.2) cdE_229 rfl ?_
    refine ev_rn (n := 2) (i2 := 11) (L2 := [some (.ref 157), some (.int (-1 : Int32)), some (.long (0 : Int64)), none, some (.long (0 : Int64)), none]) (st2 := []) (g2 := q1.2) cdE_229 rfl ?_
    refine ev_rn (n := 2) (i2 := 13) (L2 := [some (.ref 157), some (.int (-1 : Int32)), some (.long (0 : Int64)), none, some (.long (0 : Int64)), none, some (.int (0 : Int32))]) (st2 := []) (g2 := q1.2) cdE_229 rfl ?_
    obtain ⟨e8, he8, h⟩ := Option.bind_eq_some_iff.mp h
    have hX9 : Ev Lx 229 cd_229 43 [none, some (.int e8.1)] [] e8.2 (some (.int b.1), b.2) := by
      refine ev_rn (n := 1) (i2 := 44) (L2 := [none, some (.int e8.1)]) (st2 := [.int e8.1]) (g2 := e8.2) cdE_229 rfl ?_
      cases h
      exact ev_ret rfl rfl
    exact ev_wk (L := [some (.ref 157), some (.int (-1 : Int32)), some (.long (0 : Int64)), none, some (.long (0 : Int64)), none, some (.int (0 : Int32))]) (lp_ind (P := (fun (s : (Int32 × Int64 × Int64 × Int32 × M2)) => Ev Lx 229 cd_229 13 [some (.ref 157), some (.int s.1), some (.long s.2.1), none, some (.long s.2.2.1), none, some (.int s.2.2.2.1)] [] s.2.2.2.2 (some (.int b.1), b.2))) (fun s s2 hs hP => tb_Mo_farthest_13   s.1 s.2.1 s.2.2.1 s.2.2.2.1 s.2.2.2.2 (b := .inl s2) hs hP) (fun s hs => tb_Mo_farthest_13   s.1 s.2.1 s.2.2.1 s.2.2.2.1 s.2.2.2.2 (b := .inr e8) hs hX9) _ _ he8) ⟨rfl, ⟨rfl, ⟨rfl, ⟨rfl, ⟨rfl, trivial⟩⟩⟩⟩⟩
def f_Da_within (p0 : Int32) (g : M2) : Option (Int32 × M2) := ((f_Da_refresh g).bind fun q1 => (if (q1.1 6 13) = 0 then some ((-2 : Int32), q1) else (if (f_Da_isDirection p0 q1) = 0 then some ((-2 : Int32), q1) else ((f_Cu_roundAll 6 (q1.1 7 6) q1).bind fun q4 => ((f_Cu_missAt 6 p0 155 q4).bind fun q5 => ((f_Da_signOf ((f_Nu_powerX 155 q5) - ((((2 : Int32) * (f_Pl_working 7 q5)).toInt64 * (q5.2 6 16)) * (((2 : Int32) * (f_Pl_working 7 q5)).toInt64 * (q5.2 6 16)))) (f_Nu_powerY 155 q5) q5).bind fun q6 => (if 0 < q6 then some ((0 : Int32), q5) else some ((1 : Int32), q5))))))))
theorem e_Da_within {Lx : Nat} (p0 : Int32)  (g : M2) {b : (Int32 × M2)} (h : f_Da_within p0 g = some b) : Ev Lx 230 cd_230 0 [some (.ref 0), some (.int p0)] [] g (some (.int b.1), b.2) := by
  unfold f_Da_within at h
  refine ev_rn (n := 1) (i2 := 1) (L2 := [some (.ref 0), some (.int p0)]) (st2 := [.ref 0]) (g2 := g) cdE_230 rfl ?_
  obtain ⟨q1, hq1, h⟩ := Option.bind_eq_some_iff.mp h
  refine ev_call rfl cdE_100 rfl rfl rfl (e_Da_refresh   g hq1) ?_
  refine ev_rn (n := 3) (i2 := 5) (L2 := [some (.ref 0), some (.int p0)]) (st2 := [.int (q1.1 6 13)]) (g2 := q1) cdE_230 rfl ?_
  by_cases hc2 : (q1.1 6 13) = 0
  · rw [if_pos hc2] at h
    refine ev_zft cdE_230 rfl (cn_t hc2) ?_
    refine ev_rn (n := 1) (i2 := 10) (L2 := [some (.ref 0), some (.int p0)]) (st2 := [.int (-2 : Int32)]) (g2 := q1) cdE_230 rfl ?_
    cases h
    exact ev_ret rfl rfl
  · rw [if_neg hc2] at h
    refine ev_zff rfl (cn_f hc2) ?_
    refine ev_rn (n := 1) (i2 := 7) (L2 := [some (.ref 0), some (.int p0)]) (st2 := [.int p0]) (g2 := q1) cdE_230 rfl ?_
    refine ev_call rfl cdE_71 rfl rfl rfl (e_Da_isDirection p0  q1 rfl) ?_
    by_cases hc3 : (f_Da_isDirection p0 q1) = 0
    · rw [if_pos hc3] at h
      refine ev_zff rfl (cn_f (fun q => q hc3)) ?_
      refine ev_rn (n := 1) (i2 := 10) (L2 := [some (.ref 0), some (.int p0)]) (st2 := [.int (-2 : Int32)]) (g2 := q1) cdE_230 rfl ?_
      cases h
      exact ev_ret rfl rfl
    · rw [if_neg hc3] at h
      refine ev_zft cdE_230 rfl (cn_t hc3) ?_
      refine ev_rn (n := 8) (i2 := 19) (L2 := [some (.ref 0), some (.int p0)]) (st2 := [.int (q1.1 7 6), .ref 6, .ref 138]) (g2 := q1) cdE_230 rfl ?_
      obtain ⟨q4, hq4, h⟩ := Option.bind_eq_some_iff.mp h
      refine ev_call rfl cdE_212 rfl rfl rfl (e_Cu_roundAll 6 (q1.1 7 6) (by decide) q1 hq4) ?_
      refine ev_rn (n := 7) (i2 := 27) (L2 := [some (.ref 0), some (.int p0)]) (st2 := [.ref 155, .int p0, .ref 6, .ref 138]) (g2 := q4) cdE_230 rfl ?_
      obtain ⟨q5, hq5, h⟩ := Option.bind_eq_some_iff.mp h
      refine ev_call rfl cdE_224 rfl rfl rfl (e_Cu_missAt 6 p0 155 (by decide) (num_lit 155 rfl) q4 hq5) ?_
      refine ev_rn (n := 4) (i2 := 32) (L2 := [some (.ref 0), some (.int p0)]) (st2 := [.ref 7, .int (2 : Int32)]) (g2 := q5) cdE_230 rfl ?_
      refine ev_call rfl cdE_58 rfl rfl rfl (e_Pl_working 7 (by decide) q5 rfl) ?_
      refine ev_rn (n := 7) (i2 := 40) (L2 := [some (.ref 0), some (.int p0), some (.long (((2 : Int32) * (f_Pl_working 7 q5)).toInt64 * (q5.2 6 16))), none]) (st2 := []) (g2 := q5) cdE_230 rfl ?_
      refine ev_rn (n := 2) (i2 := 42) (L2 := [some (.ref 0), some (.int p0), some (.long (((2 : Int32) * (f_Pl_working 7 q5)).toInt64 * (q5.2 6 16))), none]) (st2 := [.ref 155]) (g2 := q5) cdE_230 rfl ?_
      refine ev_call rfl cdE_97 rfl rfl rfl (e_Nu_powerX 155 (num_lit 155 rfl) q5 rfl) ?_
      refine ev_rn (n := 6) (i2 := 49) (L2 := [some (.ref 0), some (.int p0), some (.long (((2 : Int32) * (f_Pl_working 7 q5)).toInt64 * (q5.2 6 16))), none]) (st2 := [.ref 155, .long ((f_Nu_powerX 155 q5) - ((((2 : Int32) * (f_Pl_working 7 q5)).toInt64 * (q5.2 6 16)) * (((2 : Int32) * (f_Pl_working 7 q5)).toInt64 * (q5.2 6 16))))]) (g2 := q5) cdE_230 rfl ?_
      refine ev_call rfl cdE_98 rfl rfl rfl (e_Nu_powerY 155 (num_lit 155 rfl) q5 rfl) ?_
      obtain ⟨q6, hq6, h⟩ := Option.bind_eq_some_iff.mp h
      refine ev_call rfl cdE_144 rfl rfl rfl (e_Da_signOf ((f_Nu_powerX 155 q5) - ((((2 : Int32) * (f_Pl_working 7 q5)).toInt64 * (q5.2 6 16)) * (((2 : Int32) * (f_Pl_working 7 q5)).toInt64 * (q5.2 6 16)))) (f_Nu_powerY 155 q5)  q5 hq6) ?_
      by_cases hc7 : 0 < q6
      · rw [if_pos hc7] at h
        refine ev_zft cdE_230 rfl (cn_t hc7) ?_
        refine ev_rn (n := 1) (i2 := 55) (L2 := [some (.ref 0), some (.int p0), some (.long (((2 : Int32) * (f_Pl_working 7 q5)).toInt64 * (q5.2 6 16))), none]) (st2 := [.int (0 : Int32)]) (g2 := q5) cdE_230 rfl ?_
        cases h
        exact ev_ret rfl rfl
      · rw [if_neg hc7] at h
        refine ev_zff rfl (cn_f hc7) ?_
        refine ev_rn (n := 2) (i2 := 55) (L2 := [some (.ref 0), some (.int p0), some (.long (((2 : Int32) * (f_Pl_working 7 q5)).toInt64 * (q5.2 6 16))), none]) (st2 := [.int (1 : Int32)]) (g2 := q5) cdE_230 rfl ?_
        cases h
        exact ev_ret rfl rfl
def f_Mo_within (p0 : Int32) (g : M2) : Option (Int32 × M2) := (if (f_Mo_isDirection p0 g) = 0 then some ((-2 : Int32), g) else ((f_Mo_cutsNow g).bind fun q2 => (if q2.1 = 0 then some ((-2 : Int32), q2.2) else ((f_Mo_laysError p0 q2.2).bind fun q4 => ((f_Mo_whole q4).bind fun q5 => ((f_Mo_signOf ((q4.2 157 3) - ((((2 : Int64) * q5.toInt64) * (q4.2 157 16)) * (((2 : Int64) * q5.toInt64) * (q4.2 157 16)))) (q4.2 157 4) q4).bind fun q6 => (if 0 < q6 then some ((0 : Int32), q4) else some ((1 : Int32), q4))))))))
theorem e_Mo_within {Lx : Nat} (p0 : Int32)  (g : M2) {b : (Int32 × M2)} (h : f_Mo_within p0 g = some b) : Ev Lx 231 cd_231 0 [some (.ref 157), some (.int p0)] [] g (some (.int b.1), b.2) := by
  unfold f_Mo_within at h
  refine ev_rn (n := 1) (i2 := 1) (L2 := [some (.ref 157), some (.int p0)]) (st2 := [.int p0]) (g2 := g) cdE_231 rfl ?_
  refine ev_call rfl cdE_73 rfl rfl rfl (e_Mo_isDirection p0  g rfl) ?_
  by_cases hc1 : (f_Mo_isDirection p0 g) = 0
  · rw [if_pos hc1] at h
    refine ev_zft cdE_231 rfl (cn_t hc1) ?_
    refine ev_rn (n := 1) (i2 := 7) (L2 := [some (.ref 157), some (.int p0)]) (st2 := [.int (-2 : Int32)]) (g2 := g) cdE_231 rfl ?_
    cases h
    exact ev_ret rfl rfl
  · rw [if_neg hc1] at h
    refine ev_zff rfl (cn_f hc1) ?_
    refine ev_rn (n := 1) (i2 := 4) (L2 := [some (.ref 157), some (.int p0)]) (st2 := [.ref 157]) (g2 := g) cdE_231 rfl ?_
    obtain ⟨q2, hq2, h⟩ := Option.bind_eq_some_iff.mp h
    refine ev_call rfl cdE_215 rfl rfl rfl (e_Mo_cutsNow   g hq2) ?_
    by_cases hc3 : q2.1 = 0
    · rw [if_pos hc3] at h
      refine ev_zff rfl (cn_f (fun q => q hc3)) ?_
      refine ev_rn (n := 1) (i2 := 7) (L2 := [some (.ref 157), some (.int p0)]) (st2 := [.int (-2 : Int32)]) (g2 := q2.2) cdE_231 rfl ?_
      cases h
      exact ev_ret rfl rfl
    · rw [if_neg hc3] at h
      refine ev_zft cdE_231 rfl (cn_t hc3) ?_
      refine ev_rn (n := 2) (i2 := 10) (L2 := [some (.ref 157), some (.int p0)]) (st2 := [.int p0, .ref 157]) (g2 := q2.2) cdE_231 rfl ?_
      obtain ⟨q4, hq4, h⟩ := Option.bind_eq_some_iff.mp h
      refine ev_call rfl cdE_226 rfl rfl rfl (e_Mo_laysError p0  q2.2 hq4) ?_
      refine ev_rn (n := 2) (i2 := 13) (L2 := [some (.ref 157), some (.int p0)]) (st2 := [.ref 157, .long (2 : Int64)]) (g2 := q4) cdE_231 rfl ?_
      obtain ⟨q5, hq5, h⟩ := Option.bind_eq_some_iff.mp h
      refine ev_call rfl cdE_62 rfl rfl rfl (e_Mo_whole   q4 hq5) ?_
      refine ev_rn (n := 6) (i2 := 20) (L2 := [some (.ref 157), some (.int p0), some (.long (((2 : Int64) * q5.toInt64) * (q4.2 157 16))), none]) (st2 := []) (g2 := q4) cdE_231 rfl ?_
      refine ev_rn (n := 8) (i2 := 28) (L2 := [some (.ref 157), some (.int p0), some (.long (((2 : Int64) * q5.toInt64) * (q4.2 157 16))), none]) (st2 := [.long (q4.2 157 4), .long ((q4.2 157 3) - ((((2 : Int64) * q5.toInt64) * (q4.2 157 16)) * (((2 : Int64) * q5.toInt64) * (q4.2 157 16))))]) (g2 := q4) cdE_231 rfl ?_
      obtain ⟨q6, hq6, h⟩ := Option.bind_eq_some_iff.mp h
      refine ev_call rfl cdE_148 rfl rfl rfl (e_Mo_signOf ((q4.2 157 3) - ((((2 : Int64) * q5.toInt64) * (q4.2 157 16)) * (((2 : Int64) * q5.toInt64) * (q4.2 157 16)))) (q4.2 157 4)  q4 hq6) ?_
      by_cases hc7 : 0 < q6
      · rw [if_pos hc7] at h
        refine ev_zft cdE_231 rfl (cn_t hc7) ?_
        refine ev_rn (n := 1) (i2 := 33) (L2 := [some (.ref 157), some (.int p0), some (.long (((2 : Int64) * q5.toInt64) * (q4.2 157 16))), none]) (st2 := [.int (0 : Int32)]) (g2 := q4) cdE_231 rfl ?_
        cases h
        exact ev_ret rfl rfl
      · rw [if_neg hc7] at h
        refine ev_zff rfl (cn_f hc7) ?_
        refine ev_rn (n := 2) (i2 := 33) (L2 := [some (.ref 157), some (.int p0), some (.long (((2 : Int64) * q5.toInt64) * (q4.2 157 16))), none]) (st2 := [.int (1 : Int32)]) (g2 := q4) cdE_231 rfl ?_
        cases h
        exact ev_ret rfl rfl
def b_Cu_deafAtMost_5 (v2 : Int32) (v3 : Int32) (v4 : Int32) (v5 : Nat) (v6 : Int32) (g : M2) : Option ((Int32 × M2) ⊕ (M2 ⊕ (Int32 × M2))) := (if (g.1 v5 5) ≤ v6 then some (.inr (.inl g)) else (if inb v6 4 then ((f_Pl_hearBy v5 139 (g.1 (v5 + 2) v6.toNatClampNeg) 150 g).bind fun q3 => ((f_Da_signOf ((v4.toInt64 * (f_Nu_powerX 150 q3)) - ((v3.toInt64 * v2.toInt64) * v2.toInt64)) (v4.toInt64 * (f_Nu_powerY 150 q3)) q3).bind fun q4 => (if q4 ≤ 0 then some (.inl ((v6 + (1 : Int32)), q3)) else some (.inr (.inr ((0 : Int32), q3)))))) else none))
theorem tb_Cu_deafAtMost_5 {Lx : Nat} (v2 : Int32) (v3 : Int32) (v4 : Int32) (v5 : Nat) (hv5 : IsPlan v5) (v6 : Int32) (g : M2) {b : (Int32 × M2) ⊕ (M2 ⊕ (Int32 × M2))} {o : Option Value × M2} (h : b_Cu_deafAtMost_5 v2 v3 v4 v5 v6 g = some b) (hb : Sum.elim (fun s => Ev Lx 232 cd_232 5 [some (.ref 138), none, some (.int v2), some (.int v3), some (.int v4), some (.ref v5), some (.int s.1)] [] s.2 o) (Sum.elim (fun e => Ev Lx 232 cd_232 46 [] [] e o) (fun r => o = (some (.int r.1), r.2))) b) : Ev Lx 232 cd_232 5 [some (.ref 138), none, some (.int v2), some (.int v3), some (.int v4), some (.ref v5), some (.int v6)] [] g o := by
  unfold b_Cu_deafAtMost_5 at h
  refine ev_rn (n := 2) (i2 := 7) (L2 := [some (.ref 138), none, some (.int v2), some (.int v3), some (.int v4), some (.ref v5), some (.int v6)]) (st2 := [.ref v5, .int v6]) (g2 := g) cdE_232 rfl ?_
  refine ev_gf (v := .int (g.1 v5 5)) rfl (pl_at hv5) (by decide) rfl ?_
  by_cases hc1 : (g.1 v5 5) ≤ v6
  · rw [if_pos hc1] at h
    refine ev_ift cdE_232 rfl (cn_t hc1) ?_
    cases h
    exact ev_wk (L := []) hb trivial
  · rw [if_neg hc1] at h
    refine ev_iff rfl (cn_f hc1) ?_
    refine ev_rn (n := 4) (i2 := 13) (L2 := [some (.ref 138), none, some (.int v2), some (.int v3), some (.int v4), some (.ref v5), some (.int v6)]) (st2 := [.ref v5, .ref 139, .ref v5]) (g2 := g) cdE_232 rfl ?_
    refine ev_gf (v := .ref (v5 + 2)) rfl (pl_at hv5) (by decide) rfl ?_
    refine ev_rn (n := 1) (i2 := 15) (L2 := [some (.ref 138), none, some (.int v2), some (.int v3), some (.int v4), some (.ref v5), some (.int v6)]) (st2 := [.int v6, .ref (v5 + 2), .ref 139, .ref v5]) (g2 := g) cdE_232 rfl ?_
    by_cases hi2 : inb v6 4
    · rw [if_pos hi2] at h
      refine ev_iaload (v := .int (g.1 (v5 + 2) v6.toNatClampNeg)) rfl (kd_of (pl_2 hv5)) (by decide) hi2 rfl ?_
      refine ev_rn (n := 2) (i2 := 18) (L2 := [some (.ref 138), none, some (.int v2), some (.int v3), some (.int v4), some (.ref v5), some (.int v6)]) (st2 := [.ref 150, .int (g.1 (v5 + 2) v6.toNatClampNeg), .ref 139, .ref v5]) (g2 := g) cdE_232 rfl ?_
      obtain ⟨q3, hq3, h⟩ := Option.bind_eq_some_iff.mp h
      refine ev_call rfl cdE_96 (cokV rfl rfl (pl_at hv5) rfl) rfl rfl (e_Pl_hearBy v5 139 (g.1 (v5 + 2) v6.toNatClampNeg) 150 hv5 (na_139) (num_lit 150 rfl) g hq3) ?_
      refine ev_rn (n := 4) (i2 := 23) (L2 := [some (.ref 138), none, some (.int v2), some (.int v3), some (.int v4), some (.ref v5), some (.int v6)]) (st2 := [.ref 150, .long v4.toInt64]) (g2 := q3) cdE_232 rfl ?_
      refine ev_call rfl cdE_97 rfl rfl rfl (e_Nu_powerX 150 (num_lit 150 rfl) q3 rfl) ?_
      refine ev_rn (n := 14) (i2 := 38) (L2 := [some (.ref 138), none, some (.int v2), some (.int v3), some (.int v4), some (.ref v5), some (.int v6)]) (st2 := [.ref 150, .long v4.toInt64, .long ((v4.toInt64 * (f_Nu_powerX 150 q3)) - ((v3.toInt64 * v2.toInt64) * v2.toInt64))]) (g2 := q3) cdE_232 rfl ?_
      refine ev_call rfl cdE_98 rfl rfl rfl (e_Nu_powerY 150 (num_lit 150 rfl) q3 rfl) ?_
      refine ev_rn (n := 1) (i2 := 40) (L2 := [some (.ref 138), none, some (.int v2), some (.int v3), some (.int v4), some (.ref v5), some (.int v6)]) (st2 := [.long (v4.toInt64 * (f_Nu_powerY 150 q3)), .long ((v4.toInt64 * (f_Nu_powerX 150 q3)) - ((v3.toInt64 * v2.toInt64) * v2.toInt64))]) (g2 := q3) cdE_232 rfl ?_
      obtain ⟨q4, hq4, h⟩ := Option.bind_eq_some_iff.mp h
      refine ev_call rfl cdE_144 rfl rfl rfl (e_Da_signOf ((v4.toInt64 * (f_Nu_powerX 150 q3)) - ((v3.toInt64 * v2.toInt64) * v2.toInt64)) (v4.toInt64 * (f_Nu_powerY 150 q3))  q3 hq4) ?_
      by_cases hc5 : q4 ≤ 0
      · rw [if_pos hc5] at h
        refine ev_zft cdE_232 rfl (cn_t hc5) ?_
        refine ev_rn (n := 2) (i2 := 5) (L2 := [some (.ref 138), none, some (.int v2), some (.int v3), some (.int v4), some (.ref v5), some (.int (v6 + (1 : Int32)))]) (st2 := []) (g2 := q3) cdE_232 rfl ?_
        cases h
        exact ev_wk (L := [some (.ref 138), none, some (.int v2), some (.int v3), some (.int v4), some (.ref v5), some (.int (v6 + (1 : Int32)))]) hb ⟨rfl, ⟨rfl, ⟨rfl, ⟨rfl, ⟨rfl, ⟨rfl, trivial⟩⟩⟩⟩⟩⟩
      · rw [if_neg hc5] at h
        refine ev_zff rfl (cn_f hc5) ?_
        refine ev_rn (n := 1) (i2 := 43) (L2 := [some (.ref 138), none, some (.int v2), some (.int v3), some (.int v4), some (.ref v5), some (.int v6)]) (st2 := [.int (0 : Int32)]) (g2 := q3) cdE_232 rfl ?_
        cases h
        cases hb
        exact ev_ret rfl rt_0
    · rw [if_neg hi2] at h
      cases h
def f_Cu_deafAtMost (p0 : Nat) (p1 : Int32) (p2 : Int32) (p3 : Int32) (g : M2) : Option (Int32 × M2) := ((lp (fun s => b_Cu_deafAtMost_5 p1 p2 p3 (p0 + 1) s.1 s.2) 5000 ((0 : Int32), g)).bind fun ue6 => Sum.elim (fun e6 => some ((1 : Int32), e6)) (fun re6 => some re6) ue6)
theorem e_Cu_deafAtMost {Lx : Nat} (p0 : Nat) (p1 : Int32) (p2 : Int32) (p3 : Int32) (hp0 : IsSol p0) (g : M2) {b : (Int32 × M2)} (h : f_Cu_deafAtMost p0 p1 p2 p3 g = some b) : Ev Lx 232 cd_232 0 [some (.ref 138), some (.ref p0), some (.int p1), some (.int p2), some (.int p3)] [] g (some (.int b.1), b.2) := by
  unfold f_Cu_deafAtMost at h
  refine ev_rn (n := 1) (i2 := 1) (L2 := [some (.ref 138), some (.ref p0), some (.int p1), some (.int p2), some (.int p3)]) (st2 := [.ref p0]) (g2 := g) cdE_232 rfl ?_
  refine ev_gf (v := .ref (p0 + 1)) rfl (so_at hp0) (by decide) rfl ?_
  refine ev_rn (n := 3) (i2 := 5) (L2 := [some (.ref 138), some (.ref p0), some (.int p1), some (.int p2), some (.int p3), some (.ref (p0 + 1)), some (.int (0 : Int32))]) (st2 := []) (g2 := g) cdE_232 rfl ?_
  obtain ⟨ue6, he6, h⟩ := Option.bind_eq_some_iff.mp h
  cases ue6 with
  | inl e6 =>
    replace h := h
    have hX7 : Ev Lx 232 cd_232 46 [] [] e6 (some (.int b.1), b.2) := by
      simp only [Sum.elim_inl] at h
      refine ev_rn (n := 1) (i2 := 47) (L2 := []) (st2 := [.int (1 : Int32)]) (g2 := e6) cdE_232 rfl ?_
      cases h
      exact ev_ret rfl rt_1
    exact ev_wk (L := [some (.ref 138), none, some (.int p1), some (.int p2), some (.int p3), some (.ref (p0 + 1)), some (.int (0 : Int32))]) (lp_ind (P := (fun (s : (Int32 × M2)) => Ev Lx 232 cd_232 5 [some (.ref 138), none, some (.int p1), some (.int p2), some (.int p3), some (.ref (p0 + 1)), some (.int s.1)] [] s.2 (some (.int b.1), b.2))) (fun s s2 hs hP => tb_Cu_deafAtMost_5 p1 p2 p3 (p0 + 1) (so_1 hp0) s.1 s.2 (b := .inl s2) hs hP) (fun s hs => tb_Cu_deafAtMost_5 p1 p2 p3 (p0 + 1) (so_1 hp0) s.1 s.2 (b := .inr (.inl e6)) hs hX7) _ _ he6) ⟨rfl, ⟨rfl, ⟨rfl, ⟨rfl, ⟨rfl, ⟨rfl, trivial⟩⟩⟩⟩⟩⟩
  | inr re6 =>
    simp only [Sum.elim_inr] at h
    cases h
    exact ev_wk (L := [some (.ref 138), none, some (.int p1), some (.int p2), some (.int p3), some (.ref (p0 + 1)), some (.int (0 : Int32))]) (lp_ind (P := (fun (s : (Int32 × M2)) => Ev Lx 232 cd_232 5 [some (.ref 138), none, some (.int p1), some (.int p2), some (.int p3), some (.ref (p0 + 1)), some (.int s.1)] [] s.2 (some (.int b.1), b.2))) (fun s s2 hs hP => tb_Cu_deafAtMost_5 p1 p2 p3 (p0 + 1) (so_1 hp0) s.1 s.2 (b := .inl s2) hs hP) (fun s hs => tb_Cu_deafAtMost_5 p1 p2 p3 (p0 + 1) (so_1 hp0) s.1 s.2 (b := .inr (.inr b)) hs rfl) _ _ he6) ⟨rfl, ⟨rfl, ⟨rfl, ⟨rfl, ⟨rfl, ⟨rfl, trivial⟩⟩⟩⟩⟩⟩
def b_Da_coarsest_14 (v1 : Int32) (v2 : Int32) (v3 : Int32) (g : M2) : Option ((Int32 × M2) ⊕ (M2 ⊕ (Int32 × M2))) := (if (99 : Int32) < v3 then some (.inr (.inl g)) else ((f_Cu_roundAll 6 v3 g).bind fun q5 => ((f_Cu_deafAtMost 6 v3 v1 v2 q5).bind fun q6 => (if q6.1 = 0 then some (.inl ((v3 + (1 : Int32)), q6.2)) else some (.inr (.inr (v3, q6.2)))))))
theorem tb_Da_coarsest_14 {Lx : Nat} (v1 : Int32) (v2 : Int32)  (v3 : Int32) (g : M2) {b : (Int32 × M2) ⊕ (M2 ⊕ (Int32 × M2))} {o : Option Value × M2} (h : b_Da_coarsest_14 v1 v2 v3 g = some b) (hb : Sum.elim (fun s => Ev Lx 233 cd_233 14 [some (.ref 0), some (.int v1), some (.int v2), some (.int s.1)] [] s.2 o) (Sum.elim (fun e => Ev Lx 233 cd_233 36 [] [] e o) (fun r => o = (some (.int r.1), r.2))) b) : Ev Lx 233 cd_233 14 [some (.ref 0), some (.int v1), some (.int v2), some (.int v3)] [] g o := by
  unfold b_Da_coarsest_14 at h
  refine ev_rn (n := 2) (i2 := 16) (L2 := [some (.ref 0), some (.int v1), some (.int v2), some (.int v3)]) (st2 := [.int (99 : Int32), .int v3]) (g2 := g) cdE_233 rfl ?_
  by_cases hc4 : (99 : Int32) < v3
  · rw [if_pos hc4] at h
    refine ev_ift cdE_233 rfl (cn_t hc4) ?_
    cases h
    exact ev_wk (L := []) hb trivial
  · rw [if_neg hc4] at h
    refine ev_iff rfl (cn_f hc4) ?_
    refine ev_rn (n := 5) (i2 := 22) (L2 := [some (.ref 0), some (.int v1), some (.int v2), some (.int v3)]) (st2 := [.int v3, .ref 6, .ref 138]) (g2 := g) cdE_233 rfl ?_
    obtain ⟨q5, hq5, h⟩ := Option.bind_eq_some_iff.mp h
    refine ev_call rfl cdE_212 rfl rfl rfl (e_Cu_roundAll 6 v3 (by decide) g hq5) ?_
    refine ev_rn (n := 7) (i2 := 30) (L2 := [some (.ref 0), some (.int v1), some (.int v2), some (.int v3)]) (st2 := [.int v2, .int v1, .int v3, .ref 6, .ref 138]) (g2 := q5) cdE_233 rfl ?_
    obtain ⟨q6, hq6, h⟩ := Option.bind_eq_some_iff.mp h
    refine ev_call rfl cdE_232 rfl rfl rfl (e_Cu_deafAtMost 6 v3 v1 v2 (by decide) q5 hq6) ?_
    by_cases hc7 : q6.1 = 0
    · rw [if_pos hc7] at h
      refine ev_zft cdE_233 rfl (cn_t hc7) ?_
      refine ev_rn (n := 2) (i2 := 14) (L2 := [some (.ref 0), some (.int v1), some (.int v2), some (.int (v3 + (1 : Int32)))]) (st2 := []) (g2 := q6.2) cdE_233 rfl ?_
      cases h
      exact ev_wk (L := [some (.ref 0), some (.int v1), some (.int v2), some (.int (v3 + (1 : Int32)))]) hb ⟨rfl, ⟨rfl, ⟨rfl, ⟨rfl, trivial⟩⟩⟩⟩
    · rw [if_neg hc7] at h
      refine ev_zff rfl (cn_f hc7) ?_
      refine ev_rn (n := 1) (i2 := 33) (L2 := [some (.ref 0), some (.int v1), some (.int v2), some (.int v3)]) (st2 := [.int v3]) (g2 := q6.2) cdE_233 rfl ?_
      cases h
      cases hb
      exact ev_ret rfl rfl
def f_Da_coarsest (p0 : Int32) (p1 : Int32) (g : M2) : Option (Int32 × M2) := ((f_Da_refresh g).bind fun q1 => (if (q1.1 6 13) = 0 then some ((-2 : Int32), q1) else (if (f_Da_isFraction p0 p1 q1) = 0 then some ((-2 : Int32), q1) else ((lp (fun s => b_Da_coarsest_14 p0 p1 s.1 s.2) 5000 ((1 : Int32), q1)).bind fun ue8 => Sum.elim (fun e8 => some ((-1 : Int32), e8)) (fun re8 => some re8) ue8))))
theorem e_Da_coarsest {Lx : Nat} (p0 : Int32) (p1 : Int32)  (g : M2) {b : (Int32 × M2)} (h : f_Da_coarsest p0 p1 g = some b) : Ev Lx 233 cd_233 0 [some (.ref 0), some (.int p0), some (.int p1)] [] g (some (.int b.1), b.2) := by
  unfold f_Da_coarsest at h
  refine ev_rn (n := 1) (i2 := 1) (L2 := [some (.ref 0), some (.int p0), some (.int p1)]) (st2 := [.ref 0]) (g2 := g) cdE_233 rfl ?_
  obtain ⟨q1, hq1, h⟩ := Option.bind_eq_some_iff.mp h
  refine ev_call rfl cdE_100 rfl rfl rfl (e_Da_refresh   g hq1) ?_
  refine ev_rn (n := 3) (i2 := 5) (L2 := [some (.ref 0), some (.int p0), some (.int p1)]) (st2 := [.int (q1.1 6 13)]) (g2 := q1) cdE_233 rfl ?_
  by_cases hc2 : (q1.1 6 13) = 0
  · rw [if_pos hc2] at h
    refine ev_zft cdE_233 rfl (cn_t hc2) ?_
    refine ev_rn (n := 1) (i2 := 11) (L2 := [some (.ref 0), some (.int p0), some (.int p1)]) (st2 := [.int (-2 : Int32)]) (g2 := q1) cdE_233 rfl ?_
    cases h
    exact ev_ret rfl rfl
  · rw [if_neg hc2] at h
    refine ev_zff rfl (cn_f hc2) ?_
    refine ev_rn (n := 2) (i2 := 8) (L2 := [some (.ref 0), some (.int p0), some (.int p1)]) (st2 := [.int p1, .int p0]) (g2 := q1) cdE_233 rfl ?_
    refine ev_call rfl cdE_154 rfl rfl rfl (e_Da_isFraction p0 p1  q1 rfl) ?_
    by_cases hc3 : (f_Da_isFraction p0 p1 q1) = 0
    · rw [if_pos hc3] at h
      refine ev_zff rfl (cn_f (fun q => q hc3)) ?_
      refine ev_rn (n := 1) (i2 := 11) (L2 := [some (.ref 0), some (.int p0), some (.int p1)]) (st2 := [.int (-2 : Int32)]) (g2 := q1) cdE_233 rfl ?_
      cases h
      exact ev_ret rfl rfl
    · rw [if_neg hc3] at h
      refine ev_zft cdE_233 rfl (cn_t hc3) ?_
      refine ev_rn (n := 2) (i2 := 14) (L2 := [some (.ref 0), some (.int p0), some (.int p1), some (.int (1 : Int32))]) (st2 := []) (g2 := q1) cdE_233 rfl ?_
      obtain ⟨ue8, he8, h⟩ := Option.bind_eq_some_iff.mp h
      cases ue8 with
      | inl e8 =>
        replace h := h
        have hX9 : Ev Lx 233 cd_233 36 [] [] e8 (some (.int b.1), b.2) := by
          simp only [Sum.elim_inl] at h
          refine ev_rn (n := 1) (i2 := 37) (L2 := []) (st2 := [.int (-1 : Int32)]) (g2 := e8) cdE_233 rfl ?_
          cases h
          exact ev_ret rfl rfl
        exact ev_wk (L := [some (.ref 0), some (.int p0), some (.int p1), some (.int (1 : Int32))]) (lp_ind (P := (fun (s : (Int32 × M2)) => Ev Lx 233 cd_233 14 [some (.ref 0), some (.int p0), some (.int p1), some (.int s.1)] [] s.2 (some (.int b.1), b.2))) (fun s s2 hs hP => tb_Da_coarsest_14 p0 p1  s.1 s.2 (b := .inl s2) hs hP) (fun s hs => tb_Da_coarsest_14 p0 p1  s.1 s.2 (b := .inr (.inl e8)) hs hX9) _ _ he8) ⟨rfl, ⟨rfl, ⟨rfl, ⟨rfl, trivial⟩⟩⟩⟩
      | inr re8 =>
        simp only [Sum.elim_inr] at h
        cases h
        exact ev_wk (L := [some (.ref 0), some (.int p0), some (.int p1), some (.int (1 : Int32))]) (lp_ind (P := (fun (s : (Int32 × M2)) => Ev Lx 233 cd_233 14 [some (.ref 0), some (.int p0), some (.int p1), some (.int s.1)] [] s.2 (some (.int b.1), b.2))) (fun s s2 hs hP => tb_Da_coarsest_14 p0 p1  s.1 s.2 (b := .inl s2) hs hP) (fun s hs => tb_Da_coarsest_14 p0 p1  s.1 s.2 (b := .inr (.inr b)) hs rfl) _ _ he8) ⟨rfl, ⟨rfl, ⟨rfl, ⟨rfl, trivial⟩⟩⟩⟩
def b_Mo_coarsest_21 (v1 : Int32) (v2 : Int32) (v3 : Int32) (v4 : Int32) (v5 : Int32) (g : M2) : Option ((Int32 × Int32 × M2) ⊕ (Int32 × M2)) := (if (g.1 160 13) ≤ v5 then some (.inr (v4, g)) else (if v4 = 0 then some (.inr (v4, g)) else (if inb ((14 : Int32) + v5) 19 then ((f_Mo_laysCutGain (g.1 160 ((14 : Int32) + v5).toNatClampNeg) g).bind fun q9 => ((f_Mo_laysPower (87 : Int32) q9).bind fun q10 => ((f_Mo_signOf (((q10.2 157 3) * v2.toInt64) - ((v1.toInt64 * v3.toInt64) * v3.toInt64)) ((q10.2 157 4) * v2.toInt64) q10).bind fun q11 => (if 0 < q11 then some (.inl ((0 : Int32), (v5 + (1 : Int32)), q10)) else some (.inl ((1 : Int32), (v5 + (1 : Int32)), q10)))))) else none)))
theorem tb_Mo_coarsest_21 {Lx : Nat} (v1 : Int32) (v2 : Int32) (v3 : Int32)  (v4 : Int32) (v5 : Int32) (g : M2) {b : (Int32 × Int32 × M2) ⊕ (Int32 × M2)} {o : Option Value × M2} (h : b_Mo_coarsest_21 v1 v2 v3 v4 v5 g = some b) (hb : Sum.elim (fun s => Ev Lx 234 cd_234 21 [some (.ref 157), some (.int v1), some (.int v2), some (.int v3), some (.int s.1), some (.int s.2.1)] [] s.2.2 o) (fun e => Ev Lx 234 cd_234 67 [some (.ref 157), some (.int v1), some (.int v2), some (.int v3), some (.int e.1)] [] e.2 o) b) : Ev Lx 234 cd_234 21 [some (.ref 157), some (.int v1), some (.int v2), some (.int v3), some (.int v4), some (.int v5)] [] g o := by
  unfold b_Mo_coarsest_21 at h
  refine ev_rn (n := 4) (i2 := 25) (L2 := [some (.ref 157), some (.int v1), some (.int v2), some (.int v3), some (.int v4), some (.int v5)]) (st2 := [.int (13 : Int32), .ref 160, .int v5]) (g2 := g) cdE_234 rfl ?_
  refine ev_iaload (v := .int (g.1 160 13)) rfl (kd_of (show S0[160]? = some (100, 19, List.replicate 19 none) from rfl)) (by decide) ⟨by decide, by decide⟩ rfl ?_
  by_cases hc6 : (g.1 160 13) ≤ v5
  · rw [if_pos hc6] at h
    refine ev_ift cdE_234 rfl (cn_t hc6) ?_
    cases h
    exact ev_wk (L := [some (.ref 157), some (.int v1), some (.int v2), some (.int v3), some (.int v4)]) hb ⟨rfl, ⟨rfl, ⟨rfl, ⟨rfl, ⟨rfl, trivial⟩⟩⟩⟩⟩
  · rw [if_neg hc6] at h
    refine ev_iff rfl (cn_f hc6) ?_
    refine ev_rn (n := 1) (i2 := 28) (L2 := [some (.ref 157), some (.int v1), some (.int v2), some (.int v3), some (.int v4), some (.int v5)]) (st2 := [.int v4]) (g2 := g) cdE_234 rfl ?_
    by_cases hc7 : v4 = 0
    · rw [if_pos hc7] at h
      refine ev_zft cdE_234 rfl (cn_t hc7) ?_
      cases h
      exact ev_wk (L := [some (.ref 157), some (.int v1), some (.int v2), some (.int v3), some (.int v4)]) hb ⟨rfl, ⟨rfl, ⟨rfl, ⟨rfl, ⟨rfl, trivial⟩⟩⟩⟩⟩
    · rw [if_neg hc7] at h
      refine ev_zff rfl (cn_f hc7) ?_
      refine ev_rn (n := 6) (i2 := 35) (L2 := [some (.ref 157), some (.int v1), some (.int v2), some (.int v3), some (.int v4), some (.int v5)]) (st2 := [.int ((14 : Int32) + v5), .ref 160, .ref 157]) (g2 := g) cdE_234 rfl ?_
      by_cases hi8 : inb ((14 : Int32) + v5) 19
      · rw [if_pos hi8] at h
        refine ev_iaload (v := .int (g.1 160 ((14 : Int32) + v5).toNatClampNeg)) rfl (kd_of (show S0[160]? = some (100, 19, List.replicate 19 none) from rfl)) (by decide) hi8 rfl ?_
        obtain ⟨q9, hq9, h⟩ := Option.bind_eq_some_iff.mp h
        refine ev_call rfl cdE_218 rfl rfl rfl (e_Mo_laysCutGain (g.1 160 ((14 : Int32) + v5).toNatClampNeg)  g hq9) ?_
        refine ev_rn (n := 2) (i2 := 39) (L2 := [some (.ref 157), some (.int v1), some (.int v2), some (.int v3), some (.int v4), some (.int v5)]) (st2 := [.int (87 : Int32), .ref 157]) (g2 := q9) cdE_234 rfl ?_
        obtain ⟨q10, hq10, h⟩ := Option.bind_eq_some_iff.mp h
        refine ev_call rfl cdE_137 rfl rfl rfl (e_Mo_laysPower (87 : Int32)  q9 hq10) ?_
        refine ev_rn (n := 19) (i2 := 59) (L2 := [some (.ref 157), some (.int v1), some (.int v2), some (.int v3), some (.int v4), some (.int v5)]) (st2 := [.long ((q10.2 157 4) * v2.toInt64), .long (((q10.2 157 3) * v2.toInt64) - ((v1.toInt64 * v3.toInt64) * v3.toInt64))]) (g2 := q10) cdE_234 rfl ?_
        obtain ⟨q11, hq11, h⟩ := Option.bind_eq_some_iff.mp h
        refine ev_call rfl cdE_148 rfl rfl rfl (e_Mo_signOf (((q10.2 157 3) * v2.toInt64) - ((v1.toInt64 * v3.toInt64) * v3.toInt64)) ((q10.2 157 4) * v2.toInt64)  q10 hq11) ?_
        by_cases hc12 : 0 < q11
        · rw [if_pos hc12] at h
          refine ev_zft cdE_234 rfl (cn_t hc12) ?_
          refine ev_rn (n := 3) (i2 := 66) (L2 := [some (.ref 157), some (.int v1), some (.int v2), some (.int v3), some (.int (0 : Int32)), some (.int (v5 + (1 : Int32)))]) (st2 := []) (g2 := q10) cdE_234 rfl ?_
          refine ev_rn (n := 1) (i2 := 21) (L2 := [some (.ref 157), some (.int v1), some (.int v2), some (.int v3), some (.int (0 : Int32)), some (.int (v5 + (1 : Int32)))]) (st2 := []) (g2 := q10) cdE_234 rfl ?_
          cases h
          exact ev_wk (L := [some (.ref 157), some (.int v1), some (.int v2), some (.int v3), some (.int (0 : Int32)), some (.int (v5 + (1 : Int32)))]) hb ⟨rfl, ⟨rfl, ⟨rfl, ⟨rfl, ⟨rfl, ⟨rfl, trivial⟩⟩⟩⟩⟩⟩
        · rw [if_neg hc12] at h
          refine ev_zff rfl (cn_f hc12) ?_
          refine ev_rn (n := 4) (i2 := 66) (L2 := [some (.ref 157), some (.int v1), some (.int v2), some (.int v3), some (.int (1 : Int32)), some (.int (v5 + (1 : Int32)))]) (st2 := []) (g2 := q10) cdE_234 rfl ?_
          refine ev_rn (n := 1) (i2 := 21) (L2 := [some (.ref 157), some (.int v1), some (.int v2), some (.int v3), some (.int (1 : Int32)), some (.int (v5 + (1 : Int32)))]) (st2 := []) (g2 := q10) cdE_234 rfl ?_
          cases h
          exact ev_wk (L := [some (.ref 157), some (.int v1), some (.int v2), some (.int v3), some (.int (1 : Int32)), some (.int (v5 + (1 : Int32)))]) hb ⟨rfl, ⟨rfl, ⟨rfl, ⟨rfl, ⟨rfl, ⟨rfl, trivial⟩⟩⟩⟩⟩⟩
      · rw [if_neg hi8] at h
        cases h
def b_Mo_coarsest_11 (v1 : Int32) (v2 : Int32) (v3 : Int32) (g : M2) : Option ((Int32 × M2) ⊕ (M2 ⊕ (Int32 × M2))) := (if (99 : Int32) < v3 then some (.inr (.inl g)) else ((f_Mo_laysCuts v3 g).bind fun q5 => ((lp (fun s => b_Mo_coarsest_21 v1 v2 v3 s.1 s.2.1 s.2.2) 5000 ((1 : Int32), (0 : Int32), q5)).bind fun e13 => (if e13.1 = 0 then some (.inl ((v3 + (1 : Int32)), e13.2)) else some (.inr (.inr (v3, e13.2)))))))
theorem tb_Mo_coarsest_11 {Lx : Nat} (v1 : Int32) (v2 : Int32)  (v3 : Int32) (g : M2) {b : (Int32 × M2) ⊕ (M2 ⊕ (Int32 × M2))} {o : Option Value × M2} (h : b_Mo_coarsest_11 v1 v2 v3 g = some b) (hb : Sum.elim (fun s => Ev Lx 234 cd_234 11 [some (.ref 157), some (.int v1), some (.int v2), some (.int s.1)] [] s.2 o) (Sum.elim (fun e => Ev Lx 234 cd_234 73 [] [] e o) (fun r => o = (some (.int r.1), r.2))) b) : Ev Lx 234 cd_234 11 [some (.ref 157), some (.int v1), some (.int v2), some (.int v3)] [] g o := by
  unfold b_Mo_coarsest_11 at h
  refine ev_rn (n := 2) (i2 := 13) (L2 := [some (.ref 157), some (.int v1), some (.int v2), some (.int v3)]) (st2 := [.int (99 : Int32), .int v3]) (g2 := g) cdE_234 rfl ?_
  by_cases hc4 : (99 : Int32) < v3
  · rw [if_pos hc4] at h
    refine ev_ift cdE_234 rfl (cn_t hc4) ?_
    cases h
    exact ev_wk (L := []) hb trivial
  · rw [if_neg hc4] at h
    refine ev_iff rfl (cn_f hc4) ?_
    refine ev_rn (n := 2) (i2 := 16) (L2 := [some (.ref 157), some (.int v1), some (.int v2), some (.int v3)]) (st2 := [.int v3, .ref 157]) (g2 := g) cdE_234 rfl ?_
    obtain ⟨q5, hq5, h⟩ := Option.bind_eq_some_iff.mp h
    refine ev_call rfl cdE_214 rfl rfl rfl (e_Mo_laysCuts v3  g hq5) ?_
    refine ev_rn (n := 4) (i2 := 21) (L2 := [some (.ref 157), some (.int v1), some (.int v2), some (.int v3), some (.int (1 : Int32)), some (.int (0 : Int32))]) (st2 := []) (g2 := q5) cdE_234 rfl ?_
    obtain ⟨e13, he13, h⟩ := Option.bind_eq_some_iff.mp h
    have hX15 : Ev Lx 234 cd_234 67 [some (.ref 157), some (.int v1), some (.int v2), some (.int v3), some (.int e13.1)] [] e13.2 o := by
      refine ev_rn (n := 1) (i2 := 68) (L2 := [some (.ref 157), some (.int v1), some (.int v2), some (.int v3), some (.int e13.1)]) (st2 := [.int e13.1]) (g2 := e13.2) cdE_234 rfl ?_
      by_cases hc14 : e13.1 = 0
      · rw [if_pos hc14] at h
        refine ev_zft cdE_234 rfl (cn_t hc14) ?_
        refine ev_rn (n := 2) (i2 := 11) (L2 := [some (.ref 157), some (.int v1), some (.int v2), some (.int (v3 + (1 : Int32))), some (.int e13.1)]) (st2 := []) (g2 := e13.2) cdE_234 rfl ?_
        cases h
        exact ev_wk (L := [some (.ref 157), some (.int v1), some (.int v2), some (.int (v3 + (1 : Int32)))]) hb ⟨rfl, ⟨rfl, ⟨rfl, ⟨rfl, trivial⟩⟩⟩⟩
      · rw [if_neg hc14] at h
        refine ev_zff rfl (cn_f hc14) ?_
        refine ev_rn (n := 1) (i2 := 70) (L2 := [some (.ref 157), some (.int v1), some (.int v2), some (.int v3), some (.int e13.1)]) (st2 := [.int v3]) (g2 := e13.2) cdE_234 rfl ?_
        cases h
        cases hb
        exact ev_ret rfl rfl
    exact ev_wk (L := [some (.ref 157), some (.int v1), some (.int v2), some (.int v3), some (.int (1 : Int32)), some (.int (0 : Int32))]) (lp_ind (P := (fun (s : (Int32 × Int32 × M2)) => Ev Lx 234 cd_234 21 [some (.ref 157), some (.int v1), some (.int v2), some (.int v3), some (.int s.1), some (.int s.2.1)] [] s.2.2 o)) (fun s s2 hs hP => tb_Mo_coarsest_21 v1 v2 v3  s.1 s.2.1 s.2.2 (b := .inl s2) hs hP) (fun s hs => tb_Mo_coarsest_21 v1 v2 v3  s.1 s.2.1 s.2.2 (b := .inr e13) hs hX15) _ _ he13) ⟨rfl, ⟨rfl, ⟨rfl, ⟨rfl, ⟨rfl, ⟨rfl, trivial⟩⟩⟩⟩⟩⟩
def f_Mo_coarsest (p0 : Int32) (p1 : Int32) (g : M2) : Option (Int32 × M2) := (if (f_Mo_isBound p0 p1 g) = 0 then some ((-2 : Int32), g) else ((f_Mo_canNow g).bind fun q2 => (if q2.1 = 0 then some ((-2 : Int32), q2.2) else ((lp (fun s => b_Mo_coarsest_11 p0 p1 s.1 s.2) 5000 ((1 : Int32), q2.2)).bind fun ue16 => Sum.elim (fun e16 => some ((-1 : Int32), e16)) (fun re16 => some re16) ue16))))
theorem e_Mo_coarsest {Lx : Nat} (p0 : Int32) (p1 : Int32)  (g : M2) {b : (Int32 × M2)} (h : f_Mo_coarsest p0 p1 g = some b) : Ev Lx 234 cd_234 0 [some (.ref 157), some (.int p0), some (.int p1)] [] g (some (.int b.1), b.2) := by
  unfold f_Mo_coarsest at h
  refine ev_rn (n := 2) (i2 := 2) (L2 := [some (.ref 157), some (.int p0), some (.int p1)]) (st2 := [.int p1, .int p0]) (g2 := g) cdE_234 rfl ?_
  refine ev_call rfl cdE_159 rfl rfl rfl (e_Mo_isBound p0 p1  g rfl) ?_
  by_cases hc1 : (f_Mo_isBound p0 p1 g) = 0
  · rw [if_pos hc1] at h
    refine ev_zft cdE_234 rfl (cn_t hc1) ?_
    refine ev_rn (n := 1) (i2 := 8) (L2 := [some (.ref 157), some (.int p0), some (.int p1)]) (st2 := [.int (-2 : Int32)]) (g2 := g) cdE_234 rfl ?_
    cases h
    exact ev_ret rfl rfl
  · rw [if_neg hc1] at h
    refine ev_zff rfl (cn_f hc1) ?_
    refine ev_rn (n := 1) (i2 := 5) (L2 := [some (.ref 157), some (.int p0), some (.int p1)]) (st2 := [.ref 157]) (g2 := g) cdE_234 rfl ?_
    obtain ⟨q2, hq2, h⟩ := Option.bind_eq_some_iff.mp h
    refine ev_call rfl cdE_118 rfl rfl rfl (e_Mo_canNow   g hq2) ?_
    by_cases hc3 : q2.1 = 0
    · rw [if_pos hc3] at h
      refine ev_zff rfl (cn_f (fun q => q hc3)) ?_
      refine ev_rn (n := 1) (i2 := 8) (L2 := [some (.ref 157), some (.int p0), some (.int p1)]) (st2 := [.int (-2 : Int32)]) (g2 := q2.2) cdE_234 rfl ?_
      cases h
      exact ev_ret rfl rfl
    · rw [if_neg hc3] at h
      refine ev_zft cdE_234 rfl (cn_t hc3) ?_
      refine ev_rn (n := 2) (i2 := 11) (L2 := [some (.ref 157), some (.int p0), some (.int p1), some (.int (1 : Int32))]) (st2 := []) (g2 := q2.2) cdE_234 rfl ?_
      obtain ⟨ue16, he16, h⟩ := Option.bind_eq_some_iff.mp h
      cases ue16 with
      | inl e16 =>
        replace h := h
        have hX17 : Ev Lx 234 cd_234 73 [] [] e16 (some (.int b.1), b.2) := by
          simp only [Sum.elim_inl] at h
          refine ev_rn (n := 1) (i2 := 74) (L2 := []) (st2 := [.int (-1 : Int32)]) (g2 := e16) cdE_234 rfl ?_
          cases h
          exact ev_ret rfl rfl
        exact ev_wk (L := [some (.ref 157), some (.int p0), some (.int p1), some (.int (1 : Int32))]) (lp_ind (P := (fun (s : (Int32 × M2)) => Ev Lx 234 cd_234 11 [some (.ref 157), some (.int p0), some (.int p1), some (.int s.1)] [] s.2 (some (.int b.1), b.2))) (fun s s2 hs hP => tb_Mo_coarsest_11 p0 p1  s.1 s.2 (b := .inl s2) hs hP) (fun s hs => tb_Mo_coarsest_11 p0 p1  s.1 s.2 (b := .inr (.inl e16)) hs hX17) _ _ he16) ⟨rfl, ⟨rfl, ⟨rfl, ⟨rfl, trivial⟩⟩⟩⟩
      | inr re16 =>
        simp only [Sum.elim_inr] at h
        cases h
        exact ev_wk (L := [some (.ref 157), some (.int p0), some (.int p1), some (.int (1 : Int32))]) (lp_ind (P := (fun (s : (Int32 × M2)) => Ev Lx 234 cd_234 11 [some (.ref 157), some (.int p0), some (.int p1), some (.int s.1)] [] s.2 (some (.int b.1), b.2))) (fun s s2 hs hP => tb_Mo_coarsest_11 p0 p1  s.1 s.2 (b := .inl s2) hs hP) (fun s hs => tb_Mo_coarsest_11 p0 p1  s.1 s.2 (b := .inr (.inr b)) hs rfl) _ _ he16) ⟨rfl, ⟨rfl, ⟨rfl, ⟨rfl, trivial⟩⟩⟩⟩
def b_Cu_hearDeaf_11 (v2 : Nat) (v3 : Int32) (g : M2) : Option ((Int32 × M2) ⊕ M2) := (if (g.1 v2 5) ≤ v3 then some (.inr g) else (if inb v3 4 then (if inb v3 4 then ((f_Pl_hearBy v2 139 (g.1 (v2 + 2) v3.toNatClampNeg) (145 + 1 + v3.toNatClampNeg) g).bind fun q6 => (if inb v3 4 then (bd (uJ q6 138 3 ((q6.2 138 3) + (f_Nu_powerX (145 + 1 + v3.toNatClampNeg) q6))) fun g8 => (if inb v3 4 then (bd (uJ g8 138 4 ((g8.2 138 4) + (f_Nu_powerY (145 + 1 + v3.toNatClampNeg) g8))) fun g10 => some (.inl ((v3 + (1 : Int32)), g10))) else none)) else none)) else none) else none))
theorem tb_Cu_hearDeaf_11 {Lx : Nat} (v2 : Nat) (hv2 : IsPlan v2) (v3 : Int32) (g : M2) {b : (Int32 × M2) ⊕ M2} {o : Option Value × M2} (h : b_Cu_hearDeaf_11 v2 v3 g = some b) (hb : Sum.elim (fun s => Ev Lx 235 cd_235 11 [some (.ref 138), none, some (.ref v2), some (.int s.1)] [] s.2 o) (fun e => Ev Lx 235 cd_235 49 [] [] e o) b) : Ev Lx 235 cd_235 11 [some (.ref 138), none, some (.ref v2), some (.int v3)] [] g o := by
  unfold b_Cu_hearDeaf_11 at h
  refine ev_rn (n := 2) (i2 := 13) (L2 := [some (.ref 138), none, some (.ref v2), some (.int v3)]) (st2 := [.ref v2, .int v3]) (g2 := g) cdE_235 rfl ?_
  refine ev_gf (v := .int (g.1 v2 5)) rfl (pl_at hv2) (by decide) rfl ?_
  by_cases hc3 : (g.1 v2 5) ≤ v3
  · rw [if_pos hc3] at h
    refine ev_ift cdE_235 rfl (cn_t hc3) ?_
    cases h
    exact ev_wk (L := []) hb trivial
  · rw [if_neg hc3] at h
    refine ev_iff rfl (cn_f hc3) ?_
    refine ev_rn (n := 4) (i2 := 19) (L2 := [some (.ref 138), none, some (.ref v2), some (.int v3)]) (st2 := [.ref v2, .ref 139, .ref v2]) (g2 := g) cdE_235 rfl ?_
    refine ev_gf (v := .ref (v2 + 2)) rfl (pl_at hv2) (by decide) rfl ?_
    refine ev_rn (n := 1) (i2 := 21) (L2 := [some (.ref 138), none, some (.ref v2), some (.int v3)]) (st2 := [.int v3, .ref (v2 + 2), .ref 139, .ref v2]) (g2 := g) cdE_235 rfl ?_
    by_cases hi4 : inb v3 4
    · rw [if_pos hi4] at h
      refine ev_iaload (v := .int (g.1 (v2 + 2) v3.toNatClampNeg)) rfl (kd_of (pl_2 hv2)) (by decide) hi4 rfl ?_
      refine ev_rn (n := 3) (i2 := 25) (L2 := [some (.ref 138), none, some (.ref v2), some (.int v3)]) (st2 := [.int v3, .ref 145, .int (g.1 (v2 + 2) v3.toNatClampNeg), .ref 139, .ref v2]) (g2 := g) cdE_235 rfl ?_
      by_cases hi5 : inb v3 4
      · rw [if_pos hi5] at h
        refine ev_aaload (v := .ref (145 + 1 + v3.toNatClampNeg)) rfl (kd_of (na_at (na_145))) (by decide) hi5 (na_rf (w := 145) hi5.2) ?_
        obtain ⟨q6, hq6, h⟩ := Option.bind_eq_some_iff.mp h
        refine ev_call rfl cdE_96 (cokV rfl rfl (pl_at hv2) rfl) rfl rfl (e_Pl_hearBy v2 139 (g.1 (v2 + 2) v3.toNatClampNeg) (145 + 1 + v3.toNatClampNeg) hv2 (na_139) (na_el (na_145) hi5.2) g hq6) ?_
        refine ev_rn (n := 6) (i2 := 33) (L2 := [some (.ref 138), none, some (.ref v2), some (.int v3)]) (st2 := [.int v3, .ref 145, .long (q6.2 138 3), .ref 138]) (g2 := q6) cdE_235 rfl ?_
        by_cases hi7 : inb v3 4
        · rw [if_pos hi7] at h
          refine ev_aaload (v := .ref (145 + 1 + v3.toNatClampNeg)) rfl (kd_of (na_at (na_145))) (by decide) hi7 (na_rf (w := 145) hi7.2) ?_
          refine ev_call rfl cdE_97 (cokV rfl rfl (na_el (na_145) hi7.2) rfl) rfl rfl (e_Nu_powerX (145 + 1 + v3.toNatClampNeg) (na_el (na_145) hi7.2) q6 rfl) ?_
          refine ev_rn (n := 1) (i2 := 36) (L2 := [some (.ref 138), none, some (.ref v2), some (.int v3)]) (st2 := [.long ((q6.2 138 3) + (f_Nu_powerX (145 + 1 + v3.toNatClampNeg) q6)), .ref 138]) (g2 := q6) cdE_235 rfl ?_
          refine bd_elim h (fun g8 hg8 h => ?_)
          refine ev_pf (g2 := g8) rfl (rfl : S0[138]? = some _) (by decide) (by rw [hg8] <;> rfl) ?_
          refine ev_rn (n := 6) (i2 := 43) (L2 := [some (.ref 138), none, some (.ref v2), some (.int v3)]) (st2 := [.int v3, .ref 145, .long (g8.2 138 4), .ref 138]) (g2 := g8) cdE_235 rfl ?_
          by_cases hi9 : inb v3 4
          · rw [if_pos hi9] at h
            refine ev_aaload (v := .ref (145 + 1 + v3.toNatClampNeg)) rfl (kd_of (na_at (na_145))) (by decide) hi9 (na_rf (w := 145) hi9.2) ?_
            refine ev_call rfl cdE_98 (cokV rfl rfl (na_el (na_145) hi9.2) rfl) rfl rfl (e_Nu_powerY (145 + 1 + v3.toNatClampNeg) (na_el (na_145) hi9.2) g8 rfl) ?_
            refine ev_rn (n := 1) (i2 := 46) (L2 := [some (.ref 138), none, some (.ref v2), some (.int v3)]) (st2 := [.long ((g8.2 138 4) + (f_Nu_powerY (145 + 1 + v3.toNatClampNeg) g8)), .ref 138]) (g2 := g8) cdE_235 rfl ?_
            refine bd_elim h (fun g10 hg10 h => ?_)
            refine ev_pf (g2 := g10) rfl (rfl : S0[138]? = some _) (by decide) (by rw [hg10] <;> rfl) ?_
            refine ev_rn (n := 2) (i2 := 11) (L2 := [some (.ref 138), none, some (.ref v2), some (.int (v3 + (1 : Int32)))]) (st2 := []) (g2 := g10) cdE_235 rfl ?_
            cases h
            exact ev_wk (L := [some (.ref 138), none, some (.ref v2), some (.int (v3 + (1 : Int32)))]) hb ⟨rfl, ⟨rfl, ⟨rfl, trivial⟩⟩⟩
          · rw [if_neg hi9] at h
            cases h
        · rw [if_neg hi7] at h
          cases h
      · rw [if_neg hi5] at h
        cases h
    · rw [if_neg hi4] at h
      cases h
def f_Cu_hearDeaf (p0 : Nat) (g : M2) : Option (M2) := (bd (uJ g 138 3 (0 : Int64)) fun g1 => (bd (uJ g1 138 4 (0 : Int64)) fun g2 => ((lp (fun s => b_Cu_hearDeaf_11 (p0 + 1) s.1 s.2) 5000 ((0 : Int32), g2)).bind fun e11 => some e11)))
theorem e_Cu_hearDeaf {Lx : Nat} (p0 : Nat) (hp0 : IsSol p0) (g : M2) {b : M2} (h : f_Cu_hearDeaf p0 g = some b) : Ev Lx 235 cd_235 0 [some (.ref 138), some (.ref p0)] [] g (none, b) := by
  unfold f_Cu_hearDeaf at h
  refine ev_rn (n := 1) (i2 := 1) (L2 := [some (.ref 138), some (.ref p0)]) (st2 := [.ref p0]) (g2 := g) cdE_235 rfl ?_
  refine ev_gf (v := .ref (p0 + 1)) rfl (so_at hp0) (by decide) rfl ?_
  refine ev_rn (n := 3) (i2 := 5) (L2 := [some (.ref 138), some (.ref p0), some (.ref (p0 + 1))]) (st2 := [.long (0 : Int64), .ref 138]) (g2 := g) cdE_235 rfl ?_
  refine bd_elim h (fun g1 hg1 h => ?_)
  refine ev_pf (g2 := g1) rfl (rfl : S0[138]? = some _) (by decide) (by rw [hg1] <;> rfl) ?_
  refine ev_rn (n := 2) (i2 := 8) (L2 := [some (.ref 138), some (.ref p0), some (.ref (p0 + 1))]) (st2 := [.long (0 : Int64), .ref 138]) (g2 := g1) cdE_235 rfl ?_
  refine bd_elim h (fun g2 hg2 h => ?_)
  refine ev_pf (g2 := g2) rfl (rfl : S0[138]? = some _) (by decide) (by rw [hg2] <;> rfl) ?_
  refine ev_rn (n := 2) (i2 := 11) (L2 := [some (.ref 138), some (.ref p0), some (.ref (p0 + 1)), some (.int (0 : Int32))]) (st2 := []) (g2 := g2) cdE_235 rfl ?_
  obtain ⟨e11, he11, h⟩ := Option.bind_eq_some_iff.mp h
  have hX12 : Ev Lx 235 cd_235 49 [] [] e11 (none, b) := by
    cases h
    exact ev_ret rfl rfl
  exact ev_wk (L := [some (.ref 138), none, some (.ref (p0 + 1)), some (.int (0 : Int32))]) (lp_ind (P := (fun (s : (Int32 × M2)) => Ev Lx 235 cd_235 11 [some (.ref 138), none, some (.ref (p0 + 1)), some (.int s.1)] [] s.2 (none, b))) (fun s s2 hs hP => tb_Cu_hearDeaf_11 (p0 + 1) (so_1 hp0) s.1 s.2 (b := .inl s2) hs hP) (fun s hs => tb_Cu_hearDeaf_11 (p0 + 1) (so_1 hp0) s.1 s.2 (b := .inr e11) hs hX12) _ _ he11) ⟨rfl, ⟨rfl, ⟨rfl, trivial⟩⟩⟩
