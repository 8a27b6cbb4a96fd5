def f_Mo_compared (p0 : Int32) (p1 : Int32) (g : M2) : Option (Int32) := (if inb p0 12 then (if inb p1 12 then (if inb p0 12 then (if inb p1 12 then ((f_Mo_signOf ((g.2 169 p0.toNatClampNeg) - (g.2 169 p1.toNatClampNeg)) ((g.2 170 p0.toNatClampNeg) - (g.2 170 p1.toNatClampNeg)) g).bind fun q5 => some q5) else none) else none) else none) else none)
theorem e_Mo_compared {Lx : Nat} (p0 : Int32) (p1 : Int32)  (g : M2) {b : Int32} (h : f_Mo_compared p0 p1 g = some b) : Ev Lx 149 cd_149 0 [some (.ref 157), some (.int p0), some (.int p1)] [] g (some (.int b), g) := by
  unfold f_Mo_compared at h
  refine ev_rn (n := 3) (i2 := 3) (L2 := [some (.ref 157), some (.int p0), some (.int p1)]) (st2 := [.int p0, .ref 169]) (g2 := g) cdE_149 rfl ?_
  by_cases hi1 : inb p0 12
  · rw [if_pos hi1] at h
    refine ev_laload (v := .long (g.2 169 p0.toNatClampNeg)) rfl (kd_of (show S0[169]? = some (101, 12, List.replicate 12 none) from rfl)) (by decide) hi1 rfl ?_
    refine ev_rn (n := 3) (i2 := 7) (L2 := [some (.ref 157), some (.int p0), some (.int p1)]) (st2 := [.int p1, .ref 169, .long (g.2 169 p0.toNatClampNeg)]) (g2 := g) cdE_149 rfl ?_
    by_cases hi2 : inb p1 12
    · rw [if_pos hi2] at h
      refine ev_laload (v := .long (g.2 169 p1.toNatClampNeg)) rfl (kd_of (show S0[169]? = some (101, 12, List.replicate 12 none) from rfl)) (by decide) hi2 rfl ?_
      refine ev_rn (n := 4) (i2 := 12) (L2 := [some (.ref 157), some (.int p0), some (.int p1)]) (st2 := [.int p0, .ref 170, .long ((g.2 169 p0.toNatClampNeg) - (g.2 169 p1.toNatClampNeg))]) (g2 := g) cdE_149 rfl ?_
      by_cases hi3 : inb p0 12
      · rw [if_pos hi3] at h
        refine ev_laload (v := .long (g.2 170 p0.toNatClampNeg)) rfl (kd_of (show S0[170]? = some (101, 12, List.replicate 12 none) from rfl)) (by decide) hi3 rfl ?_
        refine ev_rn (n := 3) (i2 := 16) (L2 := [some (.ref 157), some (.int p0), some (.int p1)]) (st2 := [.int p1, .ref 170, .long (g.2 170 p0.toNatClampNeg), .long ((g.2 169 p0.toNatClampNeg) - (g.2 169 p1.toNatClampNeg))]) (g2 := g) cdE_149 rfl ?_
        by_cases hi4 : inb p1 12
        · rw [if_pos hi4] at h
          refine ev_laload (v := .long (g.2 170 p1.toNatClampNeg)) rfl (kd_of (show S0[170]? = some (101, 12, List.replicate 12 none) from rfl)) (by decide) hi4 rfl ?_
          refine ev_rn (n := 1) (i2 := 18) (L2 := [some (.ref 157), some (.int p0), some (.int p1)]) (st2 := [.long ((g.2 170 p0.toNatClampNeg) - (g.2 170 p1.toNatClampNeg)), .long ((g.2 169 p0.toNatClampNeg) - (g.2 169 p1.toNatClampNeg))]) (g2 := g) cdE_149 rfl ?_
          obtain ⟨q5, hq5, h⟩ := Option.bind_eq_some_iff.mp h
          refine ev_call rfl cdE_148 rfl rfl rfl (e_Mo_signOf ((g.2 169 p0.toNatClampNeg) - (g.2 169 p1.toNatClampNeg)) ((g.2 170 p0.toNatClampNeg) - (g.2 170 p1.toNatClampNeg))  g hq5) ?_
          cases h
          exact ev_ret rfl rfl
        · rw [if_neg hi4] at h
          cases h
      · rw [if_neg hi3] at h
        cases h
    · rw [if_neg hi2] at h
      cases h
  · rw [if_neg hi1] at h
    cases h
def f_Mo_louder (p0 : Int32) (p1 : Int32) (g : M2) : Option (Int32 × M2) := (if (f_Mo_isDirection p0 g) = 0 then some ((-2 : Int32), g) else (if (f_Mo_isDirection p1 g) = 0 then some ((-2 : Int32), g) else ((f_Mo_canNow g).bind fun q3 => (if q3.1 = 0 then some ((-2 : Int32), q3.2) else ((f_Mo_laysPowers q3.2).bind fun q5 => ((f_Mo_compared p0 p1 q5).bind fun q6 => some (q6, q5)))))))
theorem e_Mo_louder {Lx : Nat} (p0 : Int32) (p1 : Int32)  (g : M2) {b : (Int32 × M2)} (h : f_Mo_louder p0 p1 g = some b) : Ev Lx 150 cd_150 0 [some (.ref 157), some (.int p0), some (.int p1)] [] g (some (.int b.1), b.2) := by
  unfold f_Mo_louder at h
  refine ev_rn (n := 1) (i2 := 1) (L2 := [some (.ref 157), some (.int p0), some (.int p1)]) (st2 := [.int p0]) (g2 := g) cdE_150 rfl ?_
  refine ev_call rfl cdE_73 rfl rfl rfl (e_Mo_isDirection p0  g rfl) ?_
  by_cases hc1 : (f_Mo_isDirection p0 g) = 0
  · rw [if_pos hc1] at h
    refine ev_zft cdE_150 rfl (cn_t hc1) ?_
    refine ev_rn (n := 1) (i2 := 10) (L2 := [some (.ref 157), some (.int p0), some (.int p1)]) (st2 := [.int (-2 : Int32)]) (g2 := g) cdE_150 rfl ?_
    cases h
    exact ev_ret rfl rfl
  · rw [if_neg hc1] at h
    refine ev_zff rfl (cn_f hc1) ?_
    refine ev_rn (n := 1) (i2 := 4) (L2 := [some (.ref 157), some (.int p0), some (.int p1)]) (st2 := [.int p1]) (g2 := g) cdE_150 rfl ?_
    refine ev_call rfl cdE_73 rfl rfl rfl (e_Mo_isDirection p1  g rfl) ?_
    by_cases hc2 : (f_Mo_isDirection p1 g) = 0
    · rw [if_pos hc2] at h
      refine ev_zft cdE_150 rfl (cn_t hc2) ?_
      refine ev_rn (n := 1) (i2 := 10) (L2 := [some (.ref 157), some (.int p0), some (.int p1)]) (st2 := [.int (-2 : Int32)]) (g2 := g) cdE_150 rfl ?_
      cases h
      exact ev_ret rfl rfl
    · rw [if_neg hc2] at h
      refine ev_zff rfl (cn_f hc2) ?_
      refine ev_rn (n := 1) (i2 := 7) (L2 := [some (.ref 157), some (.int p0), some (.int p1)]) (st2 := [.ref 157]) (g2 := g) cdE_150 rfl ?_
      obtain ⟨q3, hq3, h⟩ := Option.bind_eq_some_iff.mp h
      refine ev_call rfl cdE_118 rfl rfl rfl (e_Mo_canNow   g hq3) ?_
      by_cases hc4 : q3.1 = 0
      · rw [if_pos hc4] at h
        refine ev_zff rfl (cn_f (fun q => q hc4)) ?_
        refine ev_rn (n := 1) (i2 := 10) (L2 := [some (.ref 157), some (.int p0), some (.int p1)]) (st2 := [.int (-2 : Int32)]) (g2 := q3.2) cdE_150 rfl ?_
        cases h
        exact ev_ret rfl rfl
      · rw [if_neg hc4] at h
        refine ev_zft cdE_150 rfl (cn_t hc4) ?_
        refine ev_rn (n := 1) (i2 := 12) (L2 := [some (.ref 157), some (.int p0), some (.int p1)]) (st2 := [.ref 157]) (g2 := q3.2) cdE_150 rfl ?_
        obtain ⟨q5, hq5, h⟩ := Option.bind_eq_some_iff.mp h
        refine ev_call rfl cdE_147 rfl rfl rfl (e_Mo_laysPowers   q3.2 hq5) ?_
        refine ev_rn (n := 3) (i2 := 16) (L2 := [some (.ref 157), some (.int p0), some (.int p1)]) (st2 := [.int p1, .int p0, .ref 157]) (g2 := q5) cdE_150 rfl ?_
        obtain ⟨q6, hq6, h⟩ := Option.bind_eq_some_iff.mp h
        refine ev_call rfl cdE_149 rfl rfl rfl (e_Mo_compared p0 p1  q5 hq6) ?_
        cases h
        exact ev_ret rfl rfl
def b_So_placeByPower_4 (v0 : Nat) (v1 : Int32) (v2 : Int32) (v3 : Int32) (g : M2) : Option ((Int32 × Int32) ⊕ Int32) := (if (12 : Int32) ≤ v3 then some (.inr v2) else ((f_So_comparePowers v0 v3 v1 g).bind fun q2 => (if 0 < q2 then some (.inl ((v2 + (1 : Int32)), (v3 + (1 : Int32)))) else (if q2 = 0 then (if v1 ≤ v3 then some (.inl (v2, (v3 + (1 : Int32)))) else some (.inl ((v2 + (1 : Int32)), (v3 + (1 : Int32))))) else some (.inl (v2, (v3 + (1 : Int32))))))))
theorem tb_So_placeByPower_4 {Lx : Nat} (v0 : Nat) (v1 : Int32) (hv0 : IsSol v0) (v2 : Int32) (v3 : Int32) (g : M2) {b : (Int32 × Int32) ⊕ Int32} {o : Option Value × M2} (h : b_So_placeByPower_4 v0 v1 v2 v3 g = some b) (hb : Sum.elim (fun s => Ev Lx 151 cd_151 4 [some (.ref v0), some (.int v1), some (.int s.1), some (.int s.2)] [] g o) (fun e => Ev Lx 151 cd_151 22 [none, none, some (.int e)] [] g o) b) : Ev Lx 151 cd_151 4 [some (.ref v0), some (.int v1), some (.int v2), some (.int v3)] [] g o := by
  unfold b_So_placeByPower_4 at h
  refine ev_rn (n := 2) (i2 := 6) (L2 := [some (.ref v0), some (.int v1), some (.int v2), some (.int v3)]) (st2 := [.int (12 : Int32), .int v3]) (g2 := g) cdE_151 rfl ?_
  by_cases hc1 : (12 : Int32) ≤ v3
  · rw [if_pos hc1] at h
    refine ev_ift cdE_151 rfl (cn_t hc1) ?_
    cases h
    exact ev_wk (L := [none, none, some (.int v2)]) hb ⟨rfl, trivial⟩
  · rw [if_neg hc1] at h
    refine ev_iff rfl (cn_f hc1) ?_
    refine ev_rn (n := 3) (i2 := 10) (L2 := [some (.ref v0), some (.int v1), some (.int v2), some (.int v3)]) (st2 := [.int v1, .int v3, .ref v0]) (g2 := g) cdE_151 rfl ?_
    obtain ⟨q2, hq2, h⟩ := Option.bind_eq_some_iff.mp h
    refine ev_call rfl cdE_145 (cokV rfl rfl (so_at hv0) rfl) rfl rfl (e_So_comparePowers v0 v3 v1 hv0 g hq2) ?_
    refine ev_rn (n := 2) (i2 := 13) (L2 := [some (.ref v0), some (.int v1), some (.int v2), some (.int v3), some (.int q2)]) (st2 := [.int q2]) (g2 := g) cdE_151 rfl ?_
    by_cases hc3 : 0 < q2
    · rw [if_pos hc3] at h
      refine ev_zft cdE_151 rfl (cn_t hc3) ?_
      refine ev_rn (n := 2) (i2 := 21) (L2 := [some (.ref v0), some (.int v1), some (.int (v2 + (1 : Int32))), some (.int (v3 + (1 : Int32))), some (.int q2)]) (st2 := []) (g2 := g) cdE_151 rfl ?_
      refine ev_rn (n := 1) (i2 := 4) (L2 := [some (.ref v0), some (.int v1), some (.int (v2 + (1 : Int32))), some (.int (v3 + (1 : Int32))), some (.int q2)]) (st2 := []) (g2 := g) cdE_151 rfl ?_
      cases h
      exact ev_wk (L := [some (.ref v0), some (.int v1), some (.int (v2 + (1 : Int32))), some (.int (v3 + (1 : Int32)))]) hb ⟨rfl, ⟨rfl, ⟨rfl, ⟨rfl, trivial⟩⟩⟩⟩
    · rw [if_neg hc3] at h
      refine ev_zff rfl (cn_f hc3) ?_
      refine ev_rn (n := 1) (i2 := 15) (L2 := [some (.ref v0), some (.int v1), some (.int v2), some (.int v3), some (.int q2)]) (st2 := [.int q2]) (g2 := g) cdE_151 rfl ?_
      by_cases hc4 : q2 = 0
      · rw [if_pos hc4] at h
        refine ev_zff rfl (cn_f (fun q => q hc4)) ?_
        refine ev_rn (n := 2) (i2 := 18) (L2 := [some (.ref v0), some (.int v1), some (.int v2), some (.int v3), some (.int q2)]) (st2 := [.int v1, .int v3]) (g2 := g) cdE_151 rfl ?_
        by_cases hc5 : v1 ≤ v3
        · rw [if_pos hc5] at h
          refine ev_ift cdE_151 rfl (cn_t hc5) ?_
          refine ev_rn (n := 2) (i2 := 4) (L2 := [some (.ref v0), some (.int v1), some (.int v2), some (.int (v3 + (1 : Int32))), some (.int q2)]) (st2 := []) (g2 := g) cdE_151 rfl ?_
          cases h
          exact ev_wk (L := [some (.ref v0), some (.int v1), some (.int v2), some (.int (v3 + (1 : Int32)))]) hb ⟨rfl, ⟨rfl, ⟨rfl, ⟨rfl, trivial⟩⟩⟩⟩
        · rw [if_neg hc5] at h
          refine ev_iff rfl (cn_f hc5) ?_
          refine ev_rn (n := 2) (i2 := 21) (L2 := [some (.ref v0), some (.int v1), some (.int (v2 + (1 : Int32))), some (.int (v3 + (1 : Int32))), some (.int q2)]) (st2 := []) (g2 := g) cdE_151 rfl ?_
          refine ev_rn (n := 1) (i2 := 4) (L2 := [some (.ref v0), some (.int v1), some (.int (v2 + (1 : Int32))), some (.int (v3 + (1 : Int32))), some (.int q2)]) (st2 := []) (g2 := g) cdE_151 rfl ?_
          cases h
          exact ev_wk (L := [some (.ref v0), some (.int v1), some (.int (v2 + (1 : Int32))), some (.int (v3 + (1 : Int32)))]) hb ⟨rfl, ⟨rfl, ⟨rfl, ⟨rfl, trivial⟩⟩⟩⟩
      · rw [if_neg hc4] at h
        refine ev_zft cdE_151 rfl (cn_t hc4) ?_
        refine ev_rn (n := 2) (i2 := 4) (L2 := [some (.ref v0), some (.int v1), some (.int v2), some (.int (v3 + (1 : Int32))), some (.int q2)]) (st2 := []) (g2 := g) cdE_151 rfl ?_
        cases h
        exact ev_wk (L := [some (.ref v0), some (.int v1), some (.int v2), some (.int (v3 + (1 : Int32)))]) hb ⟨rfl, ⟨rfl, ⟨rfl, ⟨rfl, trivial⟩⟩⟩⟩
def f_So_placeByPower (a0 : Nat) (p0 : Int32) (g : M2) : Option (Int32) := ((lp (fun s => b_So_placeByPower_4 a0 p0 s.1 s.2 g) 5000 ((0 : Int32), (0 : Int32))).bind fun e6 => some e6)
theorem e_So_placeByPower {Lx : Nat} (a0 : Nat) (p0 : Int32) (ha0 : IsSol a0) (g : M2) {b : Int32} (h : f_So_placeByPower a0 p0 g = some b) : Ev Lx 151 cd_151 0 [some (.ref a0), some (.int p0)] [] g (some (.int b), g) := by
  unfold f_So_placeByPower at h
  refine ev_rn (n := 4) (i2 := 4) (L2 := [some (.ref a0), some (.int p0), some (.int (0 : Int32)), some (.int (0 : Int32))]) (st2 := []) (g2 := g) cdE_151 rfl ?_
  obtain ⟨e6, he6, h⟩ := Option.bind_eq_some_iff.mp h
  have hX7 : Ev Lx 151 cd_151 22 [none, none, some (.int e6)] [] g (some (.int b), g) := by
    refine ev_rn (n := 1) (i2 := 23) (L2 := [none, none, some (.int e6)]) (st2 := [.int e6]) (g2 := g) cdE_151 rfl ?_
    cases h
    exact ev_ret rfl rfl
  exact ev_wk (L := [some (.ref a0), some (.int p0), some (.int (0 : Int32)), some (.int (0 : Int32))]) (lp_ind (P := (fun (s : (Int32 × Int32)) => Ev Lx 151 cd_151 4 [some (.ref a0), some (.int p0), some (.int s.1), some (.int s.2)] [] g (some (.int b), g))) (fun s s2 hs hP => tb_So_placeByPower_4 a0 p0 ha0 s.1 s.2 g (b := .inl s2) hs hP) (fun s hs => tb_So_placeByPower_4 a0 p0 ha0 s.1 s.2 g (b := .inr e6) hs hX7) _ _ he6) ⟨rfl, ⟨rfl, ⟨rfl, ⟨rfl, trivial⟩⟩⟩⟩
def b_Da_loud_13 (v1 : Int32) (v2 : Int32) (g : M2) : Option (Int32 ⊕ (Unit ⊕ (Int32 × M2))) := (if (12 : Int32) ≤ v2 then some (.inr (.inl ())) else ((f_So_placeByPower 6 v2 g).bind fun q5 => (if q5 = v1 then some (.inr (.inr (v2, g))) else some (.inl (v2 + (1 : Int32))))))
theorem tb_Da_loud_13 {Lx : Nat} (v1 : Int32)  (v2 : Int32) (g : M2) {b : Int32 ⊕ (Unit ⊕ (Int32 × M2))} {o : Option Value × M2} (h : b_Da_loud_13 v1 v2 g = some b) (hb : Sum.elim (fun s => Ev Lx 152 cd_152 13 [some (.ref 0), some (.int v1), some (.int s)] [] g o) (Sum.elim (fun e => Ev Lx 152 cd_152 26 [] [] g o) (fun r => o = (some (.int r.1), r.2))) b) : Ev Lx 152 cd_152 13 [some (.ref 0), some (.int v1), some (.int v2)] [] g o := by
  unfold b_Da_loud_13 at h
  refine ev_rn (n := 2) (i2 := 15) (L2 := [some (.ref 0), some (.int v1), some (.int v2)]) (st2 := [.int (12 : Int32), .int v2]) (g2 := g) cdE_152 rfl ?_
  by_cases hc4 : (12 : Int32) ≤ v2
  · rw [if_pos hc4] at h
    refine ev_ift cdE_152 rfl (cn_t hc4) ?_
    cases h
    exact ev_wk (L := []) hb trivial
  · rw [if_neg hc4] at h
    refine ev_iff rfl (cn_f hc4) ?_
    refine ev_rn (n := 3) (i2 := 19) (L2 := [some (.ref 0), some (.int v1), some (.int v2)]) (st2 := [.int v2, .ref 6]) (g2 := g) cdE_152 rfl ?_
    obtain ⟨q5, hq5, h⟩ := Option.bind_eq_some_iff.mp h
    refine ev_call rfl cdE_151 rfl rfl rfl (e_So_placeByPower 6 v2 (by decide) g hq5) ?_
    refine ev_rn (n := 1) (i2 := 21) (L2 := [some (.ref 0), some (.int v1), some (.int v2)]) (st2 := [.int v1, .int q5]) (g2 := g) cdE_152 rfl ?_
    by_cases hc6 : q5 = v1
    · rw [if_pos hc6] at h
      refine ev_iff rfl (cn_f (fun q => q hc6)) ?_
      refine ev_rn (n := 1) (i2 := 23) (L2 := [some (.ref 0), some (.int v1), some (.int v2)]) (st2 := [.int v2]) (g2 := g) cdE_152 rfl ?_
      cases h
      cases hb
      exact ev_ret rfl rfl
    · rw [if_neg hc6] at h
      refine ev_ift cdE_152 rfl (cn_t hc6) ?_
      refine ev_rn (n := 2) (i2 := 13) (L2 := [some (.ref 0), some (.int v1), some (.int (v2 + (1 : Int32)))]) (st2 := []) (g2 := g) cdE_152 rfl ?_
      cases h
      exact ev_wk (L := [some (.ref 0), some (.int v1), some (.int (v2 + (1 : Int32)))]) hb ⟨rfl, ⟨rfl, ⟨rfl, trivial⟩⟩⟩
def f_Da_loud (p0 : Int32) (g : M2) : Option (Int32 × M2) := ((f_Da_refresh g).bind fun q1 => (if (q1.1 6 13) = 0 then some ((-2 : Int32), q1) else (if (f_Da_isDirection p0 q1) = 0 then some ((-2 : Int32), q1) else ((lp (fun s => b_Da_loud_13 p0 s q1) 5000 (0 : Int32)).bind fun ue7 => Sum.elim (fun e7 => some ((-2 : Int32), q1)) (fun re7 => some re7) ue7))))
theorem e_Da_loud {Lx : Nat} (p0 : Int32)  (g : M2) {b : (Int32 × M2)} (h : f_Da_loud p0 g = some b) : Ev Lx 152 cd_152 0 [some (.ref 0), some (.int p0)] [] g (some (.int b.1), b.2) := by
  unfold f_Da_loud at h
  refine ev_rn (n := 1) (i2 := 1) (L2 := [some (.ref 0), some (.int p0)]) (st2 := [.ref 0]) (g2 := g) cdE_152 rfl ?_
  obtain ⟨q1, hq1, h⟩ := Option.bind_eq_some_iff.mp h
  refine ev_call rfl cdE_100 rfl rfl rfl (e_Da_refresh   g hq1) ?_
  refine ev_rn (n := 3) (i2 := 5) (L2 := [some (.ref 0), some (.int p0)]) (st2 := [.int (q1.1 6 13)]) (g2 := q1) cdE_152 rfl ?_
  by_cases hc2 : (q1.1 6 13) = 0
  · rw [if_pos hc2] at h
    refine ev_zft cdE_152 rfl (cn_t hc2) ?_
    refine ev_rn (n := 1) (i2 := 10) (L2 := [some (.ref 0), some (.int p0)]) (st2 := [.int (-2 : Int32)]) (g2 := q1) cdE_152 rfl ?_
    cases h
    exact ev_ret rfl rfl
  · rw [if_neg hc2] at h
    refine ev_zff rfl (cn_f hc2) ?_
    refine ev_rn (n := 1) (i2 := 7) (L2 := [some (.ref 0), some (.int p0)]) (st2 := [.int p0]) (g2 := q1) cdE_152 rfl ?_
    refine ev_call rfl cdE_71 rfl rfl rfl (e_Da_isDirection p0  q1 rfl) ?_
    by_cases hc3 : (f_Da_isDirection p0 q1) = 0
    · rw [if_pos hc3] at h
      refine ev_zff rfl (cn_f (fun q => q hc3)) ?_
      refine ev_rn (n := 1) (i2 := 10) (L2 := [some (.ref 0), some (.int p0)]) (st2 := [.int (-2 : Int32)]) (g2 := q1) cdE_152 rfl ?_
      cases h
      exact ev_ret rfl rfl
    · rw [if_neg hc3] at h
      refine ev_zft cdE_152 rfl (cn_t hc3) ?_
      refine ev_rn (n := 2) (i2 := 13) (L2 := [some (.ref 0), some (.int p0), some (.int (0 : Int32))]) (st2 := []) (g2 := q1) cdE_152 rfl ?_
      obtain ⟨ue7, he7, h⟩ := Option.bind_eq_some_iff.mp h
      cases ue7 with
      | inl e7 =>
        replace h := h
        have hX8 : Ev Lx 152 cd_152 26 [] [] q1 (some (.int b.1), b.2) := by
          simp only [Sum.elim_inl] at h
          refine ev_rn (n := 1) (i2 := 27) (L2 := []) (st2 := [.int (-2 : Int32)]) (g2 := q1) cdE_152 rfl ?_
          cases h
          exact ev_ret rfl rfl
        exact ev_wk (L := [some (.ref 0), some (.int p0), some (.int (0 : Int32))]) (lp_ind (P := (fun (s : Int32) => Ev Lx 152 cd_152 13 [some (.ref 0), some (.int p0), some (.int s)] [] q1 (some (.int b.1), b.2))) (fun s s2 hs hP => tb_Da_loud_13 p0  s q1 (b := .inl s2) hs hP) (fun s hs => tb_Da_loud_13 p0  s q1 (b := .inr (.inl e7)) hs hX8) _ _ he7) ⟨rfl, ⟨rfl, ⟨rfl, trivial⟩⟩⟩
      | inr re7 =>
        simp only [Sum.elim_inr] at h
        cases h
        exact ev_wk (L := [some (.ref 0), some (.int p0), some (.int (0 : Int32))]) (lp_ind (P := (fun (s : Int32) => Ev Lx 152 cd_152 13 [some (.ref 0), some (.int p0), some (.int s)] [] q1 (some (.int b.1), b.2))) (fun s s2 hs hP => tb_Da_loud_13 p0  s q1 (b := .inl s2) hs hP) (fun s hs => tb_Da_loud_13 p0  s q1 (b := .inr (.inr b)) hs rfl) _ _ he7) ⟨rfl, ⟨rfl, ⟨rfl, trivial⟩⟩⟩
def b_Mo_loud_19 (v1 : Int32) (v2 : Int32) (v3 : Int32) (v4 : Int32) (g : M2) : Option ((Int32 × Int32) ⊕ Int32) := (if (12 : Int32) ≤ v4 then some (.inr v3) else ((f_Mo_compared v4 v2 g).bind fun q7 => (if 0 < q7 then some (.inl ((v3 + (1 : Int32)), (v4 + (1 : Int32)))) else ((f_Mo_compared v4 v2 g).bind fun q9 => (if q9 = 0 then (if v2 ≤ v4 then some (.inl ((v3 + (0 : Int32)), (v4 + (1 : Int32)))) else some (.inl ((v3 + (1 : Int32)), (v4 + (1 : Int32))))) else some (.inl ((v3 + (0 : Int32)), (v4 + (1 : Int32)))))))))
theorem tb_Mo_loud_19 {Lx : Nat} (v1 : Int32) (v2 : Int32)  (v3 : Int32) (v4 : Int32) (g : M2) {b : (Int32 × Int32) ⊕ Int32} {o : Option Value × M2} (h : b_Mo_loud_19 v1 v2 v3 v4 g = some b) (hb : Sum.elim (fun s => Ev Lx 153 cd_153 19 [some (.ref 157), some (.int v1), some (.int v2), some (.int s.1), some (.int s.2)] [] g o) (fun e => Ev Lx 153 cd_153 43 [some (.ref 157), some (.int v1), some (.int v2), some (.int e)] [] g o) b) : Ev Lx 153 cd_153 19 [some (.ref 157), some (.int v1), some (.int v2), some (.int v3), some (.int v4)] [] g o := by
  unfold b_Mo_loud_19 at h
  refine ev_rn (n := 2) (i2 := 21) (L2 := [some (.ref 157), some (.int v1), some (.int v2), some (.int v3), some (.int v4)]) (st2 := [.int (12 : Int32), .int v4]) (g2 := g) cdE_153 rfl ?_
  by_cases hc6 : (12 : Int32) ≤ v4
  · rw [if_pos hc6] at h
    refine ev_ift cdE_153 rfl (cn_t hc6) ?_
    cases h
    exact ev_wk (L := [some (.ref 157), some (.int v1), some (.int v2), some (.int v3)]) hb ⟨rfl, ⟨rfl, ⟨rfl, ⟨rfl, trivial⟩⟩⟩⟩
  · rw [if_neg hc6] at h
    refine ev_iff rfl (cn_f hc6) ?_
    refine ev_rn (n := 4) (i2 := 26) (L2 := [some (.ref 157), some (.int v1), some (.int v2), some (.int v3), some (.int v4)]) (st2 := [.int v2, .int v4, .ref 157, .int v3]) (g2 := g) cdE_153 rfl ?_
    obtain ⟨q7, hq7, h⟩ := Option.bind_eq_some_iff.mp h
    refine ev_call rfl cdE_149 rfl rfl rfl (e_Mo_compared v4 v2  g hq7) ?_
    by_cases hc8 : 0 < q7
    · rw [if_pos hc8] at h
      refine ev_zft cdE_153 rfl (cn_t hc8) ?_
      refine ev_rn (n := 5) (i2 := 42) (L2 := [some (.ref 157), some (.int v1), some (.int v2), some (.int (v3 + (1 : Int32))), some (.int (v4 + (1 : Int32)))]) (st2 := []) (g2 := g) cdE_153 rfl ?_
      refine ev_rn (n := 1) (i2 := 19) (L2 := [some (.ref 157), some (.int v1), some (.int v2), some (.int (v3 + (1 : Int32))), some (.int (v4 + (1 : Int32)))]) (st2 := []) (g2 := g) cdE_153 rfl ?_
      cases h
      exact ev_wk (L := [some (.ref 157), some (.int v1), some (.int v2), some (.int (v3 + (1 : Int32))), some (.int (v4 + (1 : Int32)))]) hb ⟨rfl, ⟨rfl, ⟨rfl, ⟨rfl, ⟨rfl, trivial⟩⟩⟩⟩⟩
    · rw [if_neg hc8] at h
      refine ev_zff rfl (cn_f hc8) ?_
      refine ev_rn (n := 3) (i2 := 31) (L2 := [some (.ref 157), some (.int v1), some (.int v2), some (.int v3), some (.int v4)]) (st2 := [.int v2, .int v4, .ref 157, .int v3]) (g2 := g) cdE_153 rfl ?_
      obtain ⟨q9, hq9, h⟩ := Option.bind_eq_some_iff.mp h
      refine ev_call rfl cdE_149 rfl rfl rfl (e_Mo_compared v4 v2  g hq9) ?_
      by_cases hc10 : q9 = 0
      · rw [if_pos hc10] at h
        refine ev_zff rfl (cn_f (fun q => q hc10)) ?_
        refine ev_rn (n := 2) (i2 := 35) (L2 := [some (.ref 157), some (.int v1), some (.int v2), some (.int v3), some (.int v4)]) (st2 := [.int v2, .int v4, .int v3]) (g2 := g) cdE_153 rfl ?_
        by_cases hc11 : v2 ≤ v4
        · rw [if_pos hc11] at h
          refine ev_ift cdE_153 rfl (cn_t hc11) ?_
          refine ev_rn (n := 4) (i2 := 42) (L2 := [some (.ref 157), some (.int v1), some (.int v2), some (.int (v3 + (0 : Int32))), some (.int (v4 + (1 : Int32)))]) (st2 := []) (g2 := g) cdE_153 rfl ?_
          refine ev_rn (n := 1) (i2 := 19) (L2 := [some (.ref 157), some (.int v1), some (.int v2), some (.int (v3 + (0 : Int32))), some (.int (v4 + (1 : Int32)))]) (st2 := []) (g2 := g) cdE_153 rfl ?_
          cases h
          exact ev_wk (L := [some (.ref 157), some (.int v1), some (.int v2), some (.int (v3 + (0 : Int32))), some (.int (v4 + (1 : Int32)))]) hb ⟨rfl, ⟨rfl, ⟨rfl, ⟨rfl, ⟨rfl, trivial⟩⟩⟩⟩⟩
        · rw [if_neg hc11] at h
          refine ev_iff rfl (cn_f hc11) ?_
          refine ev_rn (n := 5) (i2 := 42) (L2 := [some (.ref 157), some (.int v1), some (.int v2), some (.int (v3 + (1 : Int32))), some (.int (v4 + (1 : Int32)))]) (st2 := []) (g2 := g) cdE_153 rfl ?_
          refine ev_rn (n := 1) (i2 := 19) (L2 := [some (.ref 157), some (.int v1), some (.int v2), some (.int (v3 + (1 : Int32))), some (.int (v4 + (1 : Int32)))]) (st2 := []) (g2 := g) cdE_153 rfl ?_
          cases h
          exact ev_wk (L := [some (.ref 157), some (.int v1), some (.int v2), some (.int (v3 + (1 : Int32))), some (.int (v4 + (1 : Int32)))]) hb ⟨rfl, ⟨rfl, ⟨rfl, ⟨rfl, ⟨rfl, trivial⟩⟩⟩⟩⟩
      · rw [if_neg hc10] at h
        refine ev_zft cdE_153 rfl (cn_t hc10) ?_
        refine ev_rn (n := 4) (i2 := 42) (L2 := [some (.ref 157), some (.int v1), some (.int v2), some (.int (v3 + (0 : Int32))), some (.int (v4 + (1 : Int32)))]) (st2 := []) (g2 := g) cdE_153 rfl ?_
        refine ev_rn (n := 1) (i2 := 19) (L2 := [some (.ref 157), some (.int v1), some (.int v2), some (.int (v3 + (0 : Int32))), some (.int (v4 + (1 : Int32)))]) (st2 := []) (g2 := g) cdE_153 rfl ?_
        cases h
        exact ev_wk (L := [some (.ref 157), some (.int v1), some (.int v2), some (.int (v3 + (0 : Int32))), some (.int (v4 + (1 : Int32)))]) hb ⟨rfl, ⟨rfl, ⟨rfl, ⟨rfl, ⟨rfl, trivial⟩⟩⟩⟩⟩
def b_Mo_loud_12 (v1 : Int32) (v2 : Int32) (g : M2) : Option (Int32 ⊕ (Unit ⊕ (Int32 × M2))) := (if (12 : Int32) ≤ v2 then some (.inr (.inl ())) else ((lp (fun s => b_Mo_loud_19 v1 v2 s.1 s.2 g) 5000 ((0 : Int32), (0 : Int32))).bind fun e12 => (if e12 = v1 then some (.inr (.inr (v2, g))) else some (.inl (v2 + (1 : Int32))))))
theorem tb_Mo_loud_12 {Lx : Nat} (v1 : Int32)  (v2 : Int32) (g : M2) {b : Int32 ⊕ (Unit ⊕ (Int32 × M2))} {o : Option Value × M2} (h : b_Mo_loud_12 v1 v2 g = some b) (hb : Sum.elim (fun s => Ev Lx 153 cd_153 12 [some (.ref 157), some (.int v1), some (.int s)] [] g o) (Sum.elim (fun e => Ev Lx 153 cd_153 50 [] [] g o) (fun r => o = (some (.int r.1), r.2))) b) : Ev Lx 153 cd_153 12 [some (.ref 157), some (.int v1), some (.int v2)] [] g o := by
  unfold b_Mo_loud_12 at h
  refine ev_rn (n := 2) (i2 := 14) (L2 := [some (.ref 157), some (.int v1), some (.int v2)]) (st2 := [.int (12 : Int32), .int v2]) (g2 := g) cdE_153 rfl ?_
  by_cases hc5 : (12 : Int32) ≤ v2
  · rw [if_pos hc5] at h
    refine ev_ift cdE_153 rfl (cn_t hc5) ?_
    cases h
    exact ev_wk (L := []) hb trivial
  · rw [if_neg hc5] at h
    refine ev_iff rfl (cn_f hc5) ?_
    refine ev_rn (n := 4) (i2 := 19) (L2 := [some (.ref 157), some (.int v1), some (.int v2), some (.int (0 : Int32)), some (.int (0 : Int32))]) (st2 := []) (g2 := g) cdE_153 rfl ?_
    obtain ⟨e12, he12, h⟩ := Option.bind_eq_some_iff.mp h
    have hX14 : Ev Lx 153 cd_153 43 [some (.ref 157), some (.int v1), some (.int v2), some (.int e12)] [] g o := by
      refine ev_rn (n := 2) (i2 := 45) (L2 := [some (.ref 157), some (.int v1), some (.int v2), some (.int e12)]) (st2 := [.int v1, .int e12]) (g2 := g) cdE_153 rfl ?_
      by_cases hc13 : e12 = v1
      · rw [if_pos hc13] at h
        refine ev_iff rfl (cn_f (fun q => q hc13)) ?_
        refine ev_rn (n := 1) (i2 := 47) (L2 := [some (.ref 157), some (.int v1), some (.int v2), some (.int e12)]) (st2 := [.int v2]) (g2 := g) cdE_153 rfl ?_
        cases h
        cases hb
        exact ev_ret rfl rfl
      · rw [if_neg hc13] at h
        refine ev_ift cdE_153 rfl (cn_t hc13) ?_
        refine ev_rn (n := 2) (i2 := 12) (L2 := [some (.ref 157), some (.int v1), some (.int (v2 + (1 : Int32))), some (.int e12)]) (st2 := []) (g2 := g) cdE_153 rfl ?_
        cases h
        exact ev_wk (L := [some (.ref 157), some (.int v1), some (.int (v2 + (1 : Int32)))]) hb ⟨rfl, ⟨rfl, ⟨rfl, trivial⟩⟩⟩
    exact ev_wk (L := [some (.ref 157), some (.int v1), some (.int v2), some (.int (0 : Int32)), some (.int (0 : Int32))]) (lp_ind (P := (fun (s : (Int32 × Int32)) => Ev Lx 153 cd_153 19 [some (.ref 157), some (.int v1), some (.int v2), some (.int s.1), some (.int s.2)] [] g o)) (fun s s2 hs hP => tb_Mo_loud_19 v1 v2  s.1 s.2 g (b := .inl s2) hs hP) (fun s hs => tb_Mo_loud_19 v1 v2  s.1 s.2 g (b := .inr e12) hs hX14) _ _ he12) ⟨rfl, ⟨rfl, ⟨rfl, ⟨rfl, ⟨rfl, trivial⟩⟩⟩⟩⟩
def f_Mo_loud (p0 : Int32) (g : M2) : Option (Int32 × M2) := (if (f_Mo_isDirection p0 g) = 0 then some ((-2 : Int32), g) else ((f_Mo_canNow g).bind fun q2 => (if q2.1 = 0 then some ((-2 : Int32), q2.2) else ((f_Mo_laysPowers q2.2).bind fun q4 => ((lp (fun s => b_Mo_loud_12 p0 s q4) 5000 (0 : Int32)).bind fun ue15 => Sum.elim (fun e15 => some ((-1 : Int32), q4)) (fun re15 => some re15) ue15)))))
theorem e_Mo_loud {Lx : Nat} (p0 : Int32)  (g : M2) {b : (Int32 × M2)} (h : f_Mo_loud p0 g = some b) : Ev Lx 153 cd_153 0 [some (.ref 157), some (.int p0)] [] g (some (.int b.1), b.2) := by
  unfold f_Mo_loud at h
  refine ev_rn (n := 1) (i2 := 1) (L2 := [some (.ref 157), some (.int p0)]) (st2 := [.int p0]) (g2 := g) cdE_153 rfl ?_
  refine ev_call rfl cdE_73 rfl rfl rfl (e_Mo_isDirection p0  g rfl) ?_
  by_cases hc1 : (f_Mo_isDirection p0 g) = 0
  · rw [if_pos hc1] at h
    refine ev_zft cdE_153 rfl (cn_t hc1) ?_
    refine ev_rn (n := 1) (i2 := 7) (L2 := [some (.ref 157), some (.int p0)]) (st2 := [.int (-2 : Int32)]) (g2 := g) cdE_153 rfl ?_
    cases h
    exact ev_ret rfl rfl
  · rw [if_neg hc1] at h
    refine ev_zff rfl (cn_f hc1) ?_
    refine ev_rn (n := 1) (i2 := 4) (L2 := [some (.ref 157), some (.int p0)]) (st2 := [.ref 157]) (g2 := g) cdE_153 rfl ?_
    obtain ⟨q2, hq2, h⟩ := Option.bind_eq_some_iff.mp h
    refine ev_call rfl cdE_118 rfl rfl rfl (e_Mo_canNow   g hq2) ?_
    by_cases hc3 : q2.1 = 0
    · rw [if_pos hc3] at h
      refine ev_zff rfl (cn_f (fun q => q hc3)) ?_
      refine ev_rn (n := 1) (i2 := 7) (L2 := [some (.ref 157), some (.int p0)]) (st2 := [.int (-2 : Int32)]) (g2 := q2.2) cdE_153 rfl ?_
      cases h
      exact ev_ret rfl rfl
    · rw [if_neg hc3] at h
      refine ev_zft cdE_153 rfl (cn_t hc3) ?_
      refine ev_rn (n := 1) (i2 := 9) (L2 := [some (.ref 157), some (.int p0)]) (st2 := [.ref 157]) (g2 := q2.2) cdE_153 rfl ?_
      obtain ⟨q4, hq4, h⟩ := Option.bind_eq_some_iff.mp h
      refine ev_call rfl cdE_147 rfl rfl rfl (e_Mo_laysPowers   q2.2 hq4) ?_
      refine ev_rn (n := 2) (i2 := 12) (L2 := [some (.ref 157), some (.int p0), some (.int (0 : Int32))]) (st2 := []) (g2 := q4) cdE_153 rfl ?_
      obtain ⟨ue15, he15, h⟩ := Option.bind_eq_some_iff.mp h
      cases ue15 with
      | inl e15 =>
        replace h := h
        have hX16 : Ev Lx 153 cd_153 50 [] [] q4 (some (.int b.1), b.2) := by
          simp only [Sum.elim_inl] at h
          refine ev_rn (n := 1) (i2 := 51) (L2 := []) (st2 := [.int (-1 : Int32)]) (g2 := q4) cdE_153 rfl ?_
          cases h
          exact ev_ret rfl rfl
        exact ev_wk (L := [some (.ref 157), some (.int p0), some (.int (0 : Int32))]) (lp_ind (P := (fun (s : Int32) => Ev Lx 153 cd_153 12 [some (.ref 157), some (.int p0), some (.int s)] [] q4 (some (.int b.1), b.2))) (fun s s2 hs hP => tb_Mo_loud_12 p0  s q4 (b := .inl s2) hs hP) (fun s hs => tb_Mo_loud_12 p0  s q4 (b := .inr (.inl e15)) hs hX16) _ _ he15) ⟨rfl, ⟨rfl, ⟨rfl, trivial⟩⟩⟩
      | inr re15 =>
        simp only [Sum.elim_inr] at h
        cases h
        exact ev_wk (L := [some (.ref 157), some (.int p0), some (.int (0 : Int32))]) (lp_ind (P := (fun (s : Int32) => Ev Lx 153 cd_153 12 [some (.ref 157), some (.int p0), some (.int s)] [] q4 (some (.int b.1), b.2))) (fun s s2 hs hP => tb_Mo_loud_12 p0  s q4 (b := .inl s2) hs hP) (fun s hs => tb_Mo_loud_12 p0  s q4 (b := .inr (.inr b)) hs rfl) _ _ he15) ⟨rfl, ⟨rfl, ⟨rfl, trivial⟩⟩⟩
def f_Da_isFraction (p0 : Int32) (p1 : Int32) (g : M2) : Int32 := (if p0 < 0 then (0 : Int32) else (if (99 : Int32) < p0 then (0 : Int32) else (if p1 < (1 : Int32) then (0 : Int32) else (if (99 : Int32) < p1 then (0 : Int32) else (1 : Int32)))))
theorem e_Da_isFraction {Lx : Nat} (p0 : Int32) (p1 : Int32)  (g : M2) {b : Int32} (h : f_Da_isFraction p0 p1 g = b) : Ev Lx 154 cd_154 0 [some (.int p0), some (.int p1)] [] g (some (.int b), g) := by
  unfold f_Da_isFraction at h
  refine ev_rn (n := 1) (i2 := 1) (L2 := [some (.int p0), some (.int p1)]) (st2 := [.int p0]) (g2 := g) cdE_154 rfl ?_
  by_cases hc1 : p0 < 0
  · rw [if_pos hc1] at h
    refine ev_zft cdE_154 rfl (cn_t hc1) ?_
    refine ev_rn (n := 1) (i2 := 14) (L2 := [some (.int p0), some (.int p1)]) (st2 := [.int (0 : Int32)]) (g2 := g) cdE_154 rfl ?_
    subst h
    exact ev_ret rfl rt_0
  · rw [if_neg hc1] at h
    refine ev_zff rfl (cn_f hc1) ?_
    refine ev_rn (n := 2) (i2 := 4) (L2 := [some (.int p0), some (.int p1)]) (st2 := [.int (99 : Int32), .int p0]) (g2 := g) cdE_154 rfl ?_
    by_cases hc2 : (99 : Int32) < p0
    · rw [if_pos hc2] at h
      refine ev_ift cdE_154 rfl (cn_t hc2) ?_
      refine ev_rn (n := 1) (i2 := 14) (L2 := [some (.int p0), some (.int p1)]) (st2 := [.int (0 : Int32)]) (g2 := g) cdE_154 rfl ?_
      subst h
      exact ev_ret rfl rt_0
    · rw [if_neg hc2] at h
      refine ev_iff rfl (cn_f hc2) ?_
      refine ev_rn (n := 2) (i2 := 7) (L2 := [some (.int p0), some (.int p1)]) (st2 := [.int (1 : Int32), .int p1]) (g2 := g) cdE_154 rfl ?_
      by_cases hc3 : p1 < (1 : Int32)
      · rw [if_pos hc3] at h
        refine ev_ift cdE_154 rfl (cn_t hc3) ?_
        refine ev_rn (n := 1) (i2 := 14) (L2 := [some (.int p0), some (.int p1)]) (st2 := [.int (0 : Int32)]) (g2 := g) cdE_154 rfl ?_
        subst h
        exact ev_ret rfl rt_0
      · rw [if_neg hc3] at h
        refine ev_iff rfl (cn_f hc3) ?_
        refine ev_rn (n := 2) (i2 := 10) (L2 := [some (.int p0), some (.int p1)]) (st2 := [.int (99 : Int32), .int p1]) (g2 := g) cdE_154 rfl ?_
        by_cases hc4 : (99 : Int32) < p1
        · rw [if_pos hc4] at h
          refine ev_ift cdE_154 rfl (cn_t hc4) ?_
          refine ev_rn (n := 1) (i2 := 14) (L2 := [some (.int p0), some (.int p1)]) (st2 := [.int (0 : Int32)]) (g2 := g) cdE_154 rfl ?_
          subst h
          exact ev_ret rfl rt_0
        · rw [if_neg hc4] at h
          refine ev_iff rfl (cn_f hc4) ?_
          refine ev_rn (n := 2) (i2 := 14) (L2 := [some (.int p0), some (.int p1)]) (st2 := [.int (1 : Int32)]) (g2 := g) cdE_154 rfl ?_
          subst h
          exact ev_ret rfl rt_1
def f_So_compareTo (a0 : Nat) (p0 : Int64) (p1 : Int64) (p2 : Int32) (p3 : Int32) (g : M2) : Option (Int32) := ((f_Da_signOf ((p3.toInt64 * p0) - ((p2.toInt64 * (g.2 a0 16)) * (g.2 a0 16))) (p3.toInt64 * p1) g).bind fun q1 => some q1)
theorem e_So_compareTo {Lx : Nat} (a0 : Nat) (p0 : Int64) (p1 : Int64) (p2 : Int32) (p3 : Int32) (ha0 : IsSol a0) (g : M2) {b : Int32} (h : f_So_compareTo a0 p0 p1 p2 p3 g = some b) : Ev Lx 155 cd_155 0 [some (.ref a0), some (.long p0), none, some (.long p1), none, some (.int p2), some (.int p3)] [] g (some (.int b), g) := by
  unfold f_So_compareTo at h
  refine ev_rn (n := 7) (i2 := 7) (L2 := [some (.ref a0), some (.long p0), none, some (.long p1), none, some (.int p2), some (.int p3)]) (st2 := [.ref a0, .long p2.toInt64, .long (p3.toInt64 * p0)]) (g2 := g) cdE_155 rfl ?_
  refine ev_gf (v := .long (g.2 a0 16)) rfl (so_at ha0) (by decide) rfl ?_
  refine ev_rn (n := 2) (i2 := 10) (L2 := [some (.ref a0), some (.long p0), none, some (.long p1), none, some (.int p2), some (.int p3)]) (st2 := [.ref a0, .long (p2.toInt64 * (g.2 a0 16)), .long (p3.toInt64 * p0)]) (g2 := g) cdE_155 rfl ?_
  refine ev_gf (v := .long (g.2 a0 16)) rfl (so_at ha0) (by decide) rfl ?_
  refine ev_rn (n := 6) (i2 := 17) (L2 := [some (.ref a0), some (.long p0), none, some (.long p1), none, some (.int p2), some (.int p3)]) (st2 := [.long (p3.toInt64 * p1), .long ((p3.toInt64 * p0) - ((p2.toInt64 * (g.2 a0 16)) * (g.2 a0 16)))]) (g2 := g) cdE_155 rfl ?_
  obtain ⟨q1, hq1, h⟩ := Option.bind_eq_some_iff.mp h
  refine ev_call rfl cdE_144 rfl rfl rfl (e_Da_signOf ((p3.toInt64 * p0) - ((p2.toInt64 * (g.2 a0 16)) * (g.2 a0 16))) (p3.toInt64 * p1)  g hq1) ?_
  cases h
  exact ev_ret rfl rfl
def f_So_comparePowerTo (a0 : Nat) (p0 : Int32) (p1 : Int32) (p2 : Int32) (g : M2) : Option (Int32) := (if inb p0 12 then (if inb p0 12 then ((f_So_compareTo a0 (g.2 (a0 + 62) p0.toNatClampNeg) (g.2 (a0 + 63) p0.toNatClampNeg) p1 p2 g).bind fun q3 => some q3) else none) else none)
theorem e_So_comparePowerTo {Lx : Nat} (a0 : Nat) (p0 : Int32) (p1 : Int32) (p2 : Int32) (ha0 : IsSol a0) (g : M2) {b : Int32} (h : f_So_comparePowerTo a0 p0 p1 p2 g = some b) : Ev Lx 156 cd_156 0 [some (.ref a0), some (.int p0), some (.int p1), some (.int p2)] [] g (some (.int b), g) := by
  unfold f_So_comparePowerTo at h
  refine ev_rn (n := 2) (i2 := 2) (L2 := [some (.ref a0), some (.int p0), some (.int p1), some (.int p2)]) (st2 := [.ref a0, .ref a0]) (g2 := g) cdE_156 rfl ?_
  refine ev_gf (v := .ref (a0 + 62)) rfl (so_at ha0) (by decide) rfl ?_
  refine ev_rn (n := 1) (i2 := 4) (L2 := [some (.ref a0), some (.int p0), some (.int p1), some (.int p2)]) (st2 := [.int p0, .ref (a0 + 62), .ref a0]) (g2 := g) cdE_156 rfl ?_
  by_cases hi1 : inb p0 12
  · rw [if_pos hi1] at h
    refine ev_laload (v := .long (g.2 (a0 + 62) p0.toNatClampNeg)) rfl (kd_of (so_62 ha0)) (by decide) hi1 rfl ?_
    refine ev_rn (n := 1) (i2 := 6) (L2 := [some (.ref a0), some (.int p0), some (.int p1), some (.int p2)]) (st2 := [.ref a0, .long (g.2 (a0 + 62) p0.toNatClampNeg), .ref a0]) (g2 := g) cdE_156 rfl ?_
    refine ev_gf (v := .ref (a0 + 63)) rfl (so_at ha0) (by decide) rfl ?_
    refine ev_rn (n := 1) (i2 := 8) (L2 := [some (.ref a0), some (.int p0), some (.int p1), some (.int p2)]) (st2 := [.int p0, .ref (a0 + 63), .long (g.2 (a0 + 62) p0.toNatClampNeg), .ref a0]) (g2 := g) cdE_156 rfl ?_
    by_cases hi2 : inb p0 12
    · rw [if_pos hi2] at h
      refine ev_laload (v := .long (g.2 (a0 + 63) p0.toNatClampNeg)) rfl (kd_of (so_63 ha0)) (by decide) hi2 rfl ?_
      refine ev_rn (n := 2) (i2 := 11) (L2 := [some (.ref a0), some (.int p0), some (.int p1), some (.int p2)]) (st2 := [.int p2, .int p1, .long (g.2 (a0 + 63) p0.toNatClampNeg), .long (g.2 (a0 + 62) p0.toNatClampNeg), .ref a0]) (g2 := g) cdE_156 rfl ?_
      obtain ⟨q3, hq3, h⟩ := Option.bind_eq_some_iff.mp h
      refine ev_call rfl cdE_155 (cokV rfl rfl (so_at ha0) rfl) rfl rfl (e_So_compareTo a0 (g.2 (a0 + 62) p0.toNatClampNeg) (g.2 (a0 + 63) p0.toNatClampNeg) p1 p2 ha0 g hq3) ?_
      cases h
      exact ev_ret rfl rfl
    · rw [if_neg hi2] at h
      cases h
  · rw [if_neg hi1] at h
    cases h
def b_Da_rowFrom_4 (v0 : Int32) (v2 : Int32) (v3 : Int32) (v4 : Int32) (g : M2) : Option ((Int32 × Int32) ⊕ Int32) := (if (12 : Int32) ≤ v3 then some (.inr v3) else (if ((v0 >>> (v4 &&& 31)) &&& (1 : Int32)) = 0 then some (.inr v3) else some (.inl ((v3 + (1 : Int32)), ((v4 + v2) - (v4 + v2) / (12 : Int32) * (12 : Int32))))))
theorem tb_Da_rowFrom_4 {Lx : Nat} (v0 : Int32) (v2 : Int32)  (v3 : Int32) (v4 : Int32) (g : M2) {b : (Int32 × Int32) ⊕ Int32} {o : Option Value × M2} (h : b_Da_rowFrom_4 v0 v2 v3 v4 g = some b) (hb : Sum.elim (fun s => Ev Lx 157 cd_157 4 [some (.int v0), none, some (.int v2), some (.int s.1), some (.int s.2)] [] g o) (fun e => Ev Lx 157 cd_157 21 [none, none, none, some (.int e)] [] g o) b) : Ev Lx 157 cd_157 4 [some (.int v0), none, some (.int v2), some (.int v3), some (.int v4)] [] g o := by
  unfold b_Da_rowFrom_4 at h
  refine ev_rn (n := 2) (i2 := 6) (L2 := [some (.int v0), none, some (.int v2), some (.int v3), some (.int v4)]) (st2 := [.int (12 : Int32), .int v3]) (g2 := g) cdE_157 rfl ?_
  by_cases hc1 : (12 : Int32) ≤ v3
  · rw [if_pos hc1] at h
    refine ev_ift cdE_157 rfl (cn_t hc1) ?_
    cases h
    exact ev_wk (L := [none, none, none, some (.int v3)]) hb ⟨rfl, trivial⟩
  · rw [if_neg hc1] at h
    refine ev_iff rfl (cn_f hc1) ?_
    refine ev_rn (n := 5) (i2 := 12) (L2 := [some (.int v0), none, some (.int v2), some (.int v3), some (.int v4)]) (st2 := [.int ((v0 >>> (v4 &&& 31)) &&& (1 : Int32))]) (g2 := g) cdE_157 rfl ?_
    by_cases hc2 : ((v0 >>> (v4 &&& 31)) &&& (1 : Int32)) = 0
    · rw [if_pos hc2] at h
      refine ev_zft cdE_157 rfl (cn_t hc2) ?_
      cases h
      exact ev_wk (L := [none, none, none, some (.int v3)]) hb ⟨rfl, trivial⟩
    · rw [if_neg hc2] at h
      refine ev_zff rfl (cn_f hc2) ?_
      refine ev_rn (n := 5) (i2 := 18) (L2 := [some (.int v0), none, some (.int v2), some (.int (v3 + (1 : Int32))), some (.int v4)]) (st2 := [.int (12 : Int32), .int (v4 + v2)]) (g2 := g) cdE_157 rfl ?_
      refine ev_irem rfl (by decide) ?_
      refine ev_rn (n := 2) (i2 := 4) (L2 := [some (.int v0), none, some (.int v2), some (.int (v3 + (1 : Int32))), some (.int ((v4 + v2) - (v4 + v2) / (12 : Int32) * (12 : Int32)))]) (st2 := []) (g2 := g) cdE_157 rfl ?_
      cases h
      exact ev_wk (L := [some (.int v0), none, some (.int v2), some (.int (v3 + (1 : Int32))), some (.int ((v4 + v2) - (v4 + v2) / (12 : Int32) * (12 : Int32)))]) hb ⟨rfl, ⟨rfl, ⟨rfl, ⟨rfl, trivial⟩⟩⟩⟩
def f_Da_rowFrom (p0 : Int32) (p1 : Int32) (p2 : Int32) (g : M2) : Option (Int32) := ((lp (fun s => b_Da_rowFrom_4 p0 p2 s.1 s.2 g) 5000 ((0 : Int32), p1)).bind fun e3 => some e3)
theorem e_Da_rowFrom {Lx : Nat} (p0 : Int32) (p1 : Int32) (p2 : Int32)  (g : M2) {b : Int32} (h : f_Da_rowFrom p0 p1 p2 g = some b) : Ev Lx 157 cd_157 0 [some (.int p0), some (.int p1), some (.int p2)] [] g (some (.int b), g) := by
  unfold f_Da_rowFrom at h
  refine ev_rn (n := 4) (i2 := 4) (L2 := [some (.int p0), some (.int p1), some (.int p2), some (.int (0 : Int32)), some (.int p1)]) (st2 := []) (g2 := g) cdE_157 rfl ?_
  obtain ⟨e3, he3, h⟩ := Option.bind_eq_some_iff.mp h
  have hX4 : Ev Lx 157 cd_157 21 [none, none, none, some (.int e3)] [] g (some (.int b), g) := by
    refine ev_rn (n := 1) (i2 := 22) (L2 := [none, none, none, some (.int e3)]) (st2 := [.int e3]) (g2 := g) cdE_157 rfl ?_
    cases h
    exact ev_ret rfl rfl
  exact ev_wk (L := [some (.int p0), none, some (.int p2), some (.int (0 : Int32)), some (.int p1)]) (lp_ind (P := (fun (s : (Int32 × Int32)) => Ev Lx 157 cd_157 4 [some (.int p0), none, some (.int p2), some (.int s.1), some (.int s.2)] [] g (some (.int b), g))) (fun s s2 hs hP => tb_Da_rowFrom_4 p0 p2  s.1 s.2 g (b := .inl s2) hs hP) (fun s hs => tb_Da_rowFrom_4 p0 p2  s.1 s.2 g (b := .inr e3) hs hX4) _ _ he3) ⟨rfl, ⟨rfl, ⟨rfl, ⟨rfl, trivial⟩⟩⟩⟩
def b_Da_hush_20 (v1 : Int32) (v2 : Int32) (v3 : Int32) (v4 : Int32) (v5 : Int32) (g : M2) : Option ((Int32 × Int32) ⊕ Int32) := (if (12 : Int32) ≤ v5 then some (.inr v4) else ((f_So_comparePowerTo 6 v5 v1 v2 g).bind fun q6 => (if 0 < q6 then some (.inl (v4, (v5 + (1 : Int32)))) else some (.inl ((v4 ||| ((1 : Int32) <<< (v5 &&& 31))), (v5 + (1 : Int32)))))))
theorem tb_Da_hush_20 {Lx : Nat} (v1 : Int32) (v2 : Int32) (v3 : Int32)  (v4 : Int32) (v5 : Int32) (g : M2) {b : (Int32 × Int32) ⊕ Int32} {o : Option Value × M2} (h : b_Da_hush_20 v1 v2 v3 v4 v5 g = some b) (hb : Sum.elim (fun s => Ev Lx 158 cd_158 20 [some (.ref 0), some (.int v1), some (.int v2), some (.int v3), some (.int s.1), some (.int s.2)] [] g o) (fun e => Ev Lx 158 cd_158 38 [none, none, none, some (.int v3), some (.int e)] [] g o) b) : Ev Lx 158 cd_158 20 [some (.ref 0), some (.int v1), some (.int v2), some (.int v3), some (.int v4), some (.int v5)] [] g o := by
  unfold b_Da_hush_20 at h
  refine ev_rn (n := 2) (i2 := 22) (L2 := [some (.ref 0), some (.int v1), some (.int v2), some (.int v3), some (.int v4), some (.int v5)]) (st2 := [.int (12 : Int32), .int v5]) (g2 := g) cdE_158 rfl ?_
  by_cases hc5 : (12 : Int32) ≤ v5
  · rw [if_pos hc5] at h
    refine ev_ift cdE_158 rfl (cn_t hc5) ?_
    cases h
    exact ev_wk (L := [none, none, none, some (.int v3), some (.int v4)]) hb ⟨rfl, ⟨rfl, trivial⟩⟩
  · rw [if_neg hc5] at h
    refine ev_iff rfl (cn_f hc5) ?_
    refine ev_rn (n := 5) (i2 := 28) (L2 := [some (.ref 0), some (.int v1), some (.int v2), some (.int v3), some (.int v4), some (.int v5)]) (st2 := [.int v2, .int v1, .int v5, .ref 6]) (g2 := g) cdE_158 rfl ?_
    obtain ⟨q6, hq6, h⟩ := Option.bind_eq_some_iff.mp h
    refine ev_call rfl cdE_156 rfl rfl rfl (e_So_comparePowerTo 6 v5 v1 v2 (by decide) g hq6) ?_
    by_cases hc7 : 0 < q6
    · rw [if_pos hc7] at h
      refine ev_zft cdE_158 rfl (cn_t hc7) ?_
      refine ev_rn (n := 2) (i2 := 20) (L2 := [some (.ref 0), some (.int v1), some (.int v2), some (.int v3), some (.int v4), some (.int (v5 + (1 : Int32)))]) (st2 := []) (g2 := g) cdE_158 rfl ?_
      cases h
      exact ev_wk (L := [some (.ref 0), some (.int v1), some (.int v2), some (.int v3), some (.int v4), some (.int (v5 + (1 : Int32)))]) hb ⟨rfl, ⟨rfl, ⟨rfl, ⟨rfl, ⟨rfl, ⟨rfl, trivial⟩⟩⟩⟩⟩⟩
    · rw [if_neg hc7] at h
      refine ev_zff rfl (cn_f hc7) ?_
      refine ev_rn (n := 7) (i2 := 37) (L2 := [some (.ref 0), some (.int v1), some (.int v2), some (.int v3), some (.int (v4 ||| ((1 : Int32) <<< (v5 &&& 31)))), some (.int (v5 + (1 : Int32)))]) (st2 := []) (g2 := g) cdE_158 rfl ?_
      refine ev_rn (n := 1) (i2 := 20) (L2 := [some (.ref 0), some (.int v1), some (.int v2), some (.int v3), some (.int (v4 ||| ((1 : Int32) <<< (v5 &&& 31)))), some (.int (v5 + (1 : Int32)))]) (st2 := []) (g2 := g) cdE_158 rfl ?_
      cases h
      exact ev_wk (L := [some (.ref 0), some (.int v1), some (.int v2), some (.int v3), some (.int (v4 ||| ((1 : Int32) <<< (v5 &&& 31)))), some (.int (v5 + (1 : Int32)))]) hb ⟨rfl, ⟨rfl, ⟨rfl, ⟨rfl, ⟨rfl, ⟨rfl, trivial⟩⟩⟩⟩⟩⟩
def b_Da_hush_44 (v3 : Int32) (v4 : Int32) (v5 : Int32) (v6 : Int32) (v7 : Int32) (g : M2) : Option ((Int32 × Int32 × Int32) ⊕ (Int32 × Int32)) := (if (12 : Int32) ≤ v7 then some (.inr (v5, v6)) else ((f_Da_rowFrom v4 v7 (1 : Int32) g).bind fun q10 => (if q10 ≤ v5 then some (.inl (v5, v6, (v7 + (1 : Int32)))) else some (.inl (q10, v7, (v7 + (1 : Int32)))))))
theorem tb_Da_hush_44 {Lx : Nat} (v3 : Int32) (v4 : Int32)  (v5 : Int32) (v6 : Int32) (v7 : Int32) (g : M2) {b : (Int32 × Int32 × Int32) ⊕ (Int32 × Int32)} {o : Option Value × M2} (h : b_Da_hush_44 v3 v4 v5 v6 v7 g = some b) (hb : Sum.elim (fun s => Ev Lx 158 cd_158 44 [none, none, none, some (.int v3), some (.int v4), some (.int s.1), some (.int s.2.1), some (.int s.2.2)] [] g o) (fun e => Ev Lx 158 cd_158 61 [none, none, none, some (.int v3), none, some (.int e.1), some (.int e.2)] [] g o) b) : Ev Lx 158 cd_158 44 [none, none, none, some (.int v3), some (.int v4), some (.int v5), some (.int v6), some (.int v7)] [] g o := by
  unfold b_Da_hush_44 at h
  refine ev_rn (n := 2) (i2 := 46) (L2 := [none, none, none, some (.int v3), some (.int v4), some (.int v5), some (.int v6), some (.int v7)]) (st2 := [.int (12 : Int32), .int v7]) (g2 := g) cdE_158 rfl ?_
  by_cases hc9 : (12 : Int32) ≤ v7
  · rw [if_pos hc9] at h
    refine ev_ift cdE_158 rfl (cn_t hc9) ?_
    cases h
    exact ev_wk (L := [none, none, none, some (.int v3), none, some (.int v5), some (.int v6)]) hb ⟨rfl, ⟨rfl, ⟨rfl, trivial⟩⟩⟩
  · rw [if_neg hc9] at h
    refine ev_iff rfl (cn_f hc9) ?_
    refine ev_rn (n := 3) (i2 := 50) (L2 := [none, none, none, some (.int v3), some (.int v4), some (.int v5), some (.int v6), some (.int v7)]) (st2 := [.int (1 : Int32), .int v7, .int v4]) (g2 := g) cdE_158 rfl ?_
    obtain ⟨q10, hq10, h⟩ := Option.bind_eq_some_iff.mp h
    refine ev_call rfl cdE_157 rfl rfl rfl (e_Da_rowFrom v4 v7 (1 : Int32)  g hq10) ?_
    refine ev_rn (n := 3) (i2 := 54) (L2 := [none, none, none, some (.int v3), some (.int v4), some (.int v5), some (.int v6), some (.int v7), some (.int q10)]) (st2 := [.int v5, .int q10]) (g2 := g) cdE_158 rfl ?_
    by_cases hc11 : q10 ≤ v5
    · rw [if_pos hc11] at h
      refine ev_ift cdE_158 rfl (cn_t hc11) ?_
      refine ev_rn (n := 2) (i2 := 44) (L2 := [none, none, none, some (.int v3), some (.int v4), some (.int v5), some (.int v6), some (.int (v7 + (1 : Int32))), some (.int q10)]) (st2 := []) (g2 := g) cdE_158 rfl ?_
      cases h
      exact ev_wk (L := [none, none, none, some (.int v3), some (.int v4), some (.int v5), some (.int v6), some (.int (v7 + (1 : Int32)))]) hb ⟨rfl, ⟨rfl, ⟨rfl, ⟨rfl, ⟨rfl, trivial⟩⟩⟩⟩⟩
    · rw [if_neg hc11] at h
      refine ev_iff rfl (cn_f hc11) ?_
      refine ev_rn (n := 4) (i2 := 59) (L2 := [none, none, none, some (.int v3), some (.int v4), some (.int q10), some (.int v7), some (.int v7), some (.int q10)]) (st2 := []) (g2 := g) cdE_158 rfl ?_
      refine ev_rn (n := 2) (i2 := 44) (L2 := [none, none, none, some (.int v3), some (.int v4), some (.int q10), some (.int v7), some (.int (v7 + (1 : Int32))), some (.int q10)]) (st2 := []) (g2 := g) cdE_158 rfl ?_
      cases h
      exact ev_wk (L := [none, none, none, some (.int v3), some (.int v4), some (.int q10), some (.int v7), some (.int (v7 + (1 : Int32)))]) hb ⟨rfl, ⟨rfl, ⟨rfl, ⟨rfl, ⟨rfl, trivial⟩⟩⟩⟩⟩
def f_Da_hush (p0 : Int32) (p1 : Int32) (p2 : Int32) (g : M2) : Option (Int32 × M2) := ((f_Da_refresh g).bind fun q1 => (if (q1.1 6 13) = 0 then some ((-2 : Int32), q1) else (if (f_Da_isFraction p0 p1 q1) = 0 then some ((-2 : Int32), q1) else (if (f_Da_isAmong p2 (2 : Int32) q1) = 0 then some ((-2 : Int32), q1) else ((lp (fun s => b_Da_hush_20 p0 p1 p2 s.1 s.2 q1) 5000 ((0 : Int32), (0 : Int32))).bind fun e8 => ((lp (fun s => b_Da_hush_44 p2 e8 s.1 s.2.1 s.2.2 q1) 5000 ((0 : Int32), (-1 : Int32), (0 : Int32))).bind fun e12 => (if p2 = 0 then some (e12.1, q1) else some (e12.2, q1))))))))
theorem e_Da_hush {Lx : Nat} (p0 : Int32) (p1 : Int32) (p2 : Int32)  (g : M2) {b : (Int32 × M2)} (h : f_Da_hush p0 p1 p2 g = some b) : Ev Lx 158 cd_158 0 [some (.ref 0), some (.int p0), some (.int p1), some (.int p2)] [] g (some (.int b.1), b.2) := by
  unfold f_Da_hush at h
  refine ev_rn (n := 1) (i2 := 1) (L2 := [some (.ref 0), some (.int p0), some (.int p1), some (.int p2)]) (st2 := [.ref 0]) (g2 := g) cdE_158 rfl ?_
  obtain ⟨q1, hq1, h⟩ := Option.bind_eq_some_iff.mp h
  refine ev_call rfl cdE_100 rfl rfl rfl (e_Da_refresh   g hq1) ?_
  refine ev_rn (n := 3) (i2 := 5) (L2 := [some (.ref 0), some (.int p0), some (.int p1), some (.int p2)]) (st2 := [.int (q1.1 6 13)]) (g2 := q1) cdE_158 rfl ?_
  by_cases hc2 : (q1.1 6 13) = 0
  · rw [if_pos hc2] at h
    refine ev_zft cdE_158 rfl (cn_t hc2) ?_
    refine ev_rn (n := 1) (i2 := 15) (L2 := [some (.ref 0), some (.int p0), some (.int p1), some (.int p2)]) (st2 := [.int (-2 : Int32)]) (g2 := q1) cdE_158 rfl ?_
    cases h
    exact ev_ret rfl rfl
  · rw [if_neg hc2] at h
    refine ev_zff rfl (cn_f hc2) ?_
    refine ev_rn (n := 2) (i2 := 8) (L2 := [some (.ref 0), some (.int p0), some (.int p1), some (.int p2)]) (st2 := [.int p1, .int p0]) (g2 := q1) cdE_158 rfl ?_
    refine ev_call rfl cdE_154 rfl rfl rfl (e_Da_isFraction p0 p1  q1 rfl) ?_
    by_cases hc3 : (f_Da_isFraction p0 p1 q1) = 0
    · rw [if_pos hc3] at h
      refine ev_zft cdE_158 rfl (cn_t hc3) ?_
      refine ev_rn (n := 1) (i2 := 15) (L2 := [some (.ref 0), some (.int p0), some (.int p1), some (.int p2)]) (st2 := [.int (-2 : Int32)]) (g2 := q1) cdE_158 rfl ?_
      cases h
      exact ev_ret rfl rfl
    · rw [if_neg hc3] at h
      refine ev_zff rfl (cn_f hc3) ?_
      refine ev_rn (n := 2) (i2 := 12) (L2 := [some (.ref 0), some (.int p0), some (.int p1), some (.int p2)]) (st2 := [.int (2 : Int32), .int p2]) (g2 := q1) cdE_158 rfl ?_
      refine ev_call rfl cdE_65 rfl rfl rfl (e_Da_isAmong p2 (2 : Int32)  q1 rfl) ?_
      by_cases hc4 : (f_Da_isAmong p2 (2 : Int32) q1) = 0
      · rw [if_pos hc4] at h
        refine ev_zff rfl (cn_f (fun q => q hc4)) ?_
        refine ev_rn (n := 1) (i2 := 15) (L2 := [some (.ref 0), some (.int p0), some (.int p1), some (.int p2)]) (st2 := [.int (-2 : Int32)]) (g2 := q1) cdE_158 rfl ?_
        cases h
        exact ev_ret rfl rfl
      · rw [if_neg hc4] at h
        refine ev_zft cdE_158 rfl (cn_t hc4) ?_
        refine ev_rn (n := 4) (i2 := 20) (L2 := [some (.ref 0), some (.int p0), some (.int p1), some (.int p2), some (.int (0 : Int32)), some (.int (0 : Int32))]) (st2 := []) (g2 := q1) cdE_158 rfl ?_
        obtain ⟨e8, he8, h⟩ := Option.bind_eq_some_iff.mp h
        have hX15 : Ev Lx 158 cd_158 38 [none, none, none, some (.int p2), some (.int e8)] [] q1 (some (.int b.1), b.2) := by
          refine ev_rn (n := 4) (i2 := 42) (L2 := [none, none, none, some (.int p2), some (.int e8), some (.int (0 : Int32)), some (.int (-1 : Int32))]) (st2 := []) (g2 := q1) cdE_158 rfl ?_
          refine ev_rn (n := 2) (i2 := 44) (L2 := [none, none, none, some (.int p2), some (.int e8), some (.int (0 : Int32)), some (.int (-1 : Int32)), some (.int (0 : Int32))]) (st2 := []) (g2 := q1) cdE_158 rfl ?_
          obtain ⟨e12, he12, h⟩ := Option.bind_eq_some_iff.mp h
          have hX14 : Ev Lx 158 cd_158 61 [none, none, none, some (.int p2), none, some (.int e12.1), some (.int e12.2)] [] q1 (some (.int b.1), b.2) := by
            refine ev_rn (n := 1) (i2 := 62) (L2 := [none, none, none, some (.int p2), none, some (.int e12.1), some (.int e12.2)]) (st2 := [.int p2]) (g2 := q1) cdE_158 rfl ?_
            by_cases hc13 : p2 = 0
            · rw [if_pos hc13] at h
              refine ev_zff rfl (cn_f (fun q => q hc13)) ?_
              refine ev_rn (n := 2) (i2 := 66) (L2 := [none, none, none, some (.int p2), none, some (.int e12.1), some (.int e12.2)]) (st2 := [.int e12.1]) (g2 := q1) cdE_158 rfl ?_
              cases h
              exact ev_ret rfl rfl
            · rw [if_neg hc13] at h
              refine ev_zft cdE_158 rfl (cn_t hc13) ?_
              refine ev_rn (n := 1) (i2 := 66) (L2 := [none, none, none, some (.int p2), none, some (.int e12.1), some (.int e12.2)]) (st2 := [.int e12.2]) (g2 := q1) cdE_158 rfl ?_
              cases h
              exact ev_ret rfl rfl
          exact ev_wk (L := [none, none, none, some (.int p2), some (.int e8), some (.int (0 : Int32)), some (.int (-1 : Int32)), some (.int (0 : Int32))]) (lp_ind (P := (fun (s : (Int32 × Int32 × Int32)) => Ev Lx 158 cd_158 44 [none, none, none, some (.int p2), some (.int e8), some (.int s.1), some (.int s.2.1), some (.int s.2.2)] [] q1 (some (.int b.1), b.2))) (fun s s2 hs hP => tb_Da_hush_44 p2 e8  s.1 s.2.1 s.2.2 q1 (b := .inl s2) hs hP) (fun s hs => tb_Da_hush_44 p2 e8  s.1 s.2.1 s.2.2 q1 (b := .inr e12) hs hX14) _ _ he12) ⟨rfl, ⟨rfl, ⟨rfl, ⟨rfl, ⟨rfl, trivial⟩⟩⟩⟩⟩
        exact ev_wk (L := [some (.ref 0), some (.int p0), some (.int p1), some (.int p2), some (.int (0 : Int32)), some (.int (0 : Int32))]) (lp_ind (P := (fun (s : (Int32 × Int32)) => Ev Lx 158 cd_158 20 [some (.ref 0), some (.int p0), some (.int p1), some (.int p2), some (.int s.1), some (.int s.2)] [] q1 (some (.int b.1), b.2))) (fun s s2 hs hP => tb_Da_hush_20 p0 p1 p2  s.1 s.2 q1 (b := .inl s2) hs hP) (fun s hs => tb_Da_hush_20 p0 p1 p2  s.1 s.2 q1 (b := .inr e8) hs hX15) _ _ he8) ⟨rfl, ⟨rfl, ⟨rfl, ⟨rfl, ⟨rfl, ⟨rfl, trivial⟩⟩⟩⟩⟩⟩
def f_Mo_isBound (p0 : Int32) (p1 : Int32) (g : M2) : Int32 := (if (f_Mo_in p0.toInt64 (0 : Int64) (99 : Int64) g) = 0 then (0 : Int32) else (if (f_Mo_in p1.toInt64 (1 : Int64) (99 : Int64) g) = 0 then (0 : Int32) else (1 : Int32)))
theorem e_Mo_isBound {Lx : Nat} (p0 : Int32) (p1 : Int32)  (g : M2) {b : Int32} (h : f_Mo_isBound p0 p1 g = b) : Ev Lx 159 cd_159 0 [some (.int p0), some (.int p1)] [] g (some (.int b), g) := by
  unfold f_Mo_isBound at h
  refine ev_rn (n := 4) (i2 := 4) (L2 := [some (.int p0), some (.int p1)]) (st2 := [.long (99 : Int64), .long (0 : Int64), .long p0.toInt64]) (g2 := g) cdE_159 rfl ?_
  refine ev_call rfl cdE_16 rfl rfl rfl (e_Mo_in p0.toInt64 (0 : Int64) (99 : Int64)  g rfl) ?_
  by_cases hc1 : (f_Mo_in p0.toInt64 (0 : Int64) (99 : Int64) g) = 0
  · rw [if_pos hc1] at h
    refine ev_zft cdE_159 rfl (cn_t hc1) ?_
    refine ev_rn (n := 1) (i2 := 15) (L2 := [some (.int p0), some (.int p1)]) (st2 := [.int (0 : Int32)]) (g2 := g) cdE_159 rfl ?_
    subst h
    exact ev_ret rfl rt_0
  · rw [if_neg hc1] at h
    refine ev_zff rfl (cn_f hc1) ?_
    refine ev_rn (n := 4) (i2 := 10) (L2 := [some (.int p0), some (.int p1)]) (st2 := [.long (99 : Int64), .long (1 : Int64), .long p1.toInt64]) (g2 := g) cdE_159 rfl ?_
    refine ev_call rfl cdE_16 rfl rfl rfl (e_Mo_in p1.toInt64 (1 : Int64) (99 : Int64)  g rfl) ?_
    by_cases hc2 : (f_Mo_in p1.toInt64 (1 : Int64) (99 : Int64) g) = 0
    · rw [if_pos hc2] at h
      refine ev_zft cdE_159 rfl (cn_t hc2) ?_
      refine ev_rn (n := 1) (i2 := 15) (L2 := [some (.int p0), some (.int p1)]) (st2 := [.int (0 : Int32)]) (g2 := g) cdE_159 rfl ?_
      subst h
      exact ev_ret rfl rt_0
    · rw [if_neg hc2] at h
      refine ev_zff rfl (cn_f hc2) ?_
      refine ev_rn (n := 2) (i2 := 15) (L2 := [some (.int p0), some (.int p1)]) (st2 := [.int (1 : Int32)]) (g2 := g) cdE_159 rfl ?_
      subst h
      exact ev_ret rfl rt_1
def f_Mo_byBound (p0 : Int32) (p1 : Int32) (p2 : Int32) (g : M2) : Option (Int32) := (if inb p0 12 then (if inb p0 12 then ((f_Mo_signOf (((g.2 169 p0.toNatClampNeg) * p2.toInt64) - (((g.2 157 16) * (g.2 157 16)) * p1.toInt64)) ((g.2 170 p0.toNatClampNeg) * p2.toInt64) g).bind fun q3 => some q3) else none) else none)
theorem e_Mo_byBound {Lx : Nat} (p0 : Int32) (p1 : Int32) (p2 : Int32)  (g : M2) {b : Int32} (h : f_Mo_byBound p0 p1 p2 g = some b) : Ev Lx 160 cd_160 0 [some (.ref 157), some (.int p0), some (.int p1), some (.int p2)] [] g (some (.int b), g) := by
  unfold f_Mo_byBound at h
  refine ev_rn (n := 3) (i2 := 3) (L2 := [some (.ref 157), some (.int p0), some (.int p1), some (.int p2)]) (st2 := [.int p0, .ref 169]) (g2 := g) cdE_160 rfl ?_
  by_cases hi1 : inb p0 12
  · rw [if_pos hi1] at h
    refine ev_laload (v := .long (g.2 169 p0.toNatClampNeg)) rfl (kd_of (show S0[169]? = some (101, 12, List.replicate 12 none) from rfl)) (by decide) hi1 rfl ?_
    refine ev_rn (n := 15) (i2 := 19) (L2 := [some (.ref 157), some (.int p0), some (.int p1), some (.int p2)]) (st2 := [.int p0, .ref 170, .long (((g.2 169 p0.toNatClampNeg) * p2.toInt64) - (((g.2 157 16) * (g.2 157 16)) * p1.toInt64))]) (g2 := g) cdE_160 rfl ?_
    by_cases hi2 : inb p0 12
    · rw [if_pos hi2] at h
      refine ev_laload (v := .long (g.2 170 p0.toNatClampNeg)) rfl (kd_of (show S0[170]? = some (101, 12, List.replicate 12 none) from rfl)) (by decide) hi2 rfl ?_
      refine ev_rn (n := 3) (i2 := 23) (L2 := [some (.ref 157), some (.int p0), some (.int p1), some (.int p2)]) (st2 := [.long ((g.2 170 p0.toNatClampNeg) * p2.toInt64), .long (((g.2 169 p0.toNatClampNeg) * p2.toInt64) - (((g.2 157 16) * (g.2 157 16)) * p1.toInt64))]) (g2 := g) cdE_160 rfl ?_
      obtain ⟨q3, hq3, h⟩ := Option.bind_eq_some_iff.mp h
      refine ev_call rfl cdE_148 rfl rfl rfl (e_Mo_signOf (((g.2 169 p0.toNatClampNeg) * p2.toInt64) - (((g.2 157 16) * (g.2 157 16)) * p1.toInt64)) ((g.2 170 p0.toNatClampNeg) * p2.toInt64)  g hq3) ?_
      cases h
      exact ev_ret rfl rfl
    · rw [if_neg hi2] at h
      cases h
  · rw [if_neg hi1] at h
    cases h
def b_Mo_hush_28 (v1 : Int32) (v2 : Int32) (v3 : Int32) (v4 : Int32) (v5 : Int32) (v6 : Int32) (v7 : Int32) (g : M2) : Option (Int32 ⊕ Int32) := (if (12 : Int32) ≤ v7 then some (.inr v7) else ((f_Mo_byBound ((v6 + v7) - (v6 + v7) / (12 : Int32) * (12 : Int32)) v1 v2 g).bind fun q8 => (if 0 < q8 then some (.inr v7) else some (.inl (v7 + (1 : Int32))))))
theorem tb_Mo_hush_28 {Lx : Nat} (v1 : Int32) (v2 : Int32) (v3 : Int32) (v4 : Int32) (v5 : Int32) (v6 : Int32)  (v7 : Int32) (g : M2) {b : Int32 ⊕ Int32} {o : Option Value × M2} (h : b_Mo_hush_28 v1 v2 v3 v4 v5 v6 v7 g = some b) (hb : Sum.elim (fun s => Ev Lx 161 cd_161 28 [some (.ref 157), some (.int v1), some (.int v2), some (.int v3), some (.int v4), some (.int v5), some (.int v6), some (.int s)] [] g o) (fun e => Ev Lx 161 cd_161 43 [some (.ref 157), some (.int v1), some (.int v2), some (.int v3), some (.int v4), some (.int v5), some (.int v6), some (.int e)] [] g o) b) : Ev Lx 161 cd_161 28 [some (.ref 157), some (.int v1), some (.int v2), some (.int v3), some (.int v4), some (.int v5), some (.int v6), some (.int v7)] [] g o := by
  unfold b_Mo_hush_28 at h
  refine ev_rn (n := 2) (i2 := 30) (L2 := [some (.ref 157), some (.int v1), some (.int v2), some (.int v3), some (.int v4), some (.int v5), some (.int v6), some (.int v7)]) (st2 := [.int (12 : Int32), .int v7]) (g2 := g) cdE_161 rfl ?_
  by_cases hc7 : (12 : Int32) ≤ v7
  · rw [if_pos hc7] at h
    refine ev_ift cdE_161 rfl (cn_t hc7) ?_
    cases h
    exact ev_wk (L := [some (.ref 157), some (.int v1), some (.int v2), some (.int v3), some (.int v4), some (.int v5), some (.int v6), some (.int v7)]) hb ⟨rfl, ⟨rfl, ⟨rfl, ⟨rfl, ⟨rfl, ⟨rfl, ⟨rfl, ⟨rfl, trivial⟩⟩⟩⟩⟩⟩⟩⟩
  · rw [if_neg hc7] at h
    refine ev_iff rfl (cn_f hc7) ?_
    refine ev_rn (n := 5) (i2 := 36) (L2 := [some (.ref 157), some (.int v1), some (.int v2), some (.int v3), some (.int v4), some (.int v5), some (.int v6), some (.int v7)]) (st2 := [.int (12 : Int32), .int (v6 + v7), .ref 157]) (g2 := g) cdE_161 rfl ?_
    refine ev_irem rfl (by decide) ?_
    refine ev_rn (n := 2) (i2 := 39) (L2 := [some (.ref 157), some (.int v1), some (.int v2), some (.int v3), some (.int v4), some (.int v5), some (.int v6), some (.int v7)]) (st2 := [.int v2, .int v1, .int ((v6 + v7) - (v6 + v7) / (12 : Int32) * (12 : Int32)), .ref 157]) (g2 := g) cdE_161 rfl ?_
    obtain ⟨q8, hq8, h⟩ := Option.bind_eq_some_iff.mp h
    refine ev_call rfl cdE_160 rfl rfl rfl (e_Mo_byBound ((v6 + v7) - (v6 + v7) / (12 : Int32) * (12 : Int32)) v1 v2  g hq8) ?_
    by_cases hc9 : 0 < q8
    · rw [if_pos hc9] at h
      refine ev_zft cdE_161 rfl (cn_t hc9) ?_
      cases h
      exact ev_wk (L := [some (.ref 157), some (.int v1), some (.int v2), some (.int v3), some (.int v4), some (.int v5), some (.int v6), some (.int v7)]) hb ⟨rfl, ⟨rfl, ⟨rfl, ⟨rfl, ⟨rfl, ⟨rfl, ⟨rfl, ⟨rfl, trivial⟩⟩⟩⟩⟩⟩⟩⟩
    · rw [if_neg hc9] at h
      refine ev_zff rfl (cn_f hc9) ?_
      refine ev_rn (n := 2) (i2 := 28) (L2 := [some (.ref 157), some (.int v1), some (.int v2), some (.int v3), some (.int v4), some (.int v5), some (.int v6), some (.int (v7 + (1 : Int32)))]) (st2 := []) (g2 := g) cdE_161 rfl ?_
      cases h
      exact ev_wk (L := [some (.ref 157), some (.int v1), some (.int v2), some (.int v3), some (.int v4), some (.int v5), some (.int v6), some (.int (v7 + (1 : Int32)))]) hb ⟨rfl, ⟨rfl, ⟨rfl, ⟨rfl, ⟨rfl, ⟨rfl, ⟨rfl, ⟨rfl, trivial⟩⟩⟩⟩⟩⟩⟩⟩
def b_Mo_hush_23 (v1 : Int32) (v2 : Int32) (v3 : Int32) (v4 : Int32) (v5 : Int32) (v6 : Int32) (g : M2) : Option ((Int32 × Int32 × Int32) ⊕ (Int32 × Int32)) := (if (12 : Int32) ≤ v6 then some (.inr (v4, v5)) else ((lp (fun s => b_Mo_hush_28 v1 v2 v3 v4 v5 v6 s g) 5000 (0 : Int32)).bind fun e10 => (if v4 < e10 then some (.inl (e10, v6, (v6 + (1 : Int32)))) else some (.inl (v4, v5, (v6 + (1 : Int32)))))))
theorem tb_Mo_hush_23 {Lx : Nat} (v1 : Int32) (v2 : Int32) (v3 : Int32)  (v4 : Int32) (v5 : Int32) (v6 : Int32) (g : M2) {b : (Int32 × Int32 × Int32) ⊕ (Int32 × Int32)} {o : Option Value × M2} (h : b_Mo_hush_23 v1 v2 v3 v4 v5 v6 g = some b) (hb : Sum.elim (fun s => Ev Lx 161 cd_161 23 [some (.ref 157), some (.int v1), some (.int v2), some (.int v3), some (.int s.1), some (.int s.2.1), some (.int s.2.2)] [] g o) (fun e => Ev Lx 161 cd_161 53 [none, none, none, some (.int v3), some (.int e.1), some (.int e.2)] [] g o) b) : Ev Lx 161 cd_161 23 [some (.ref 157), some (.int v1), some (.int v2), some (.int v3), some (.int v4), some (.int v5), some (.int v6)] [] g o := by
  unfold b_Mo_hush_23 at h
  refine ev_rn (n := 2) (i2 := 25) (L2 := [some (.ref 157), some (.int v1), some (.int v2), some (.int v3), some (.int v4), some (.int v5), some (.int v6)]) (st2 := [.int (12 : Int32), .int v6]) (g2 := g) cdE_161 rfl ?_
  by_cases hc6 : (12 : Int32) ≤ v6
  · rw [if_pos hc6] at h
    refine ev_ift cdE_161 rfl (cn_t hc6) ?_
    cases h
    exact ev_wk (L := [none, none, none, some (.int v3), some (.int v4), some (.int v5)]) hb ⟨rfl, ⟨rfl, ⟨rfl, trivial⟩⟩⟩
  · rw [if_neg hc6] at h
    refine ev_iff rfl (cn_f hc6) ?_
    refine ev_rn (n := 2) (i2 := 28) (L2 := [some (.ref 157), some (.int v1), some (.int v2), some (.int v3), some (.int v4), some (.int v5), some (.int v6), some (.int (0 : Int32))]) (st2 := []) (g2 := g) cdE_161 rfl ?_
    obtain ⟨e10, he10, h⟩ := Option.bind_eq_some_iff.mp h
    have hX12 : Ev Lx 161 cd_161 43 [some (.ref 157), some (.int v1), some (.int v2), some (.int v3), some (.int v4), some (.int v5), some (.int v6), some (.int e10)] [] g o := by
      refine ev_rn (n := 2) (i2 := 45) (L2 := [some (.ref 157), some (.int v1), some (.int v2), some (.int v3), some (.int v4), some (.int v5), some (.int v6), some (.int e10)]) (st2 := [.int v4, .int e10]) (g2 := g) cdE_161 rfl ?_
      by_cases hc11 : v4 < e10
      · rw [if_pos hc11] at h
        refine ev_ift cdE_161 rfl (cn_t hc11) ?_
        refine ev_rn (n := 4) (i2 := 51) (L2 := [some (.ref 157), some (.int v1), some (.int v2), some (.int v3), some (.int e10), some (.int v6), some (.int v6), some (.int e10)]) (st2 := []) (g2 := g) cdE_161 rfl ?_
        refine ev_rn (n := 2) (i2 := 23) (L2 := [some (.ref 157), some (.int v1), some (.int v2), some (.int v3), some (.int e10), some (.int v6), some (.int (v6 + (1 : Int32))), some (.int e10)]) (st2 := []) (g2 := g) cdE_161 rfl ?_
        cases h
        exact ev_wk (L := [some (.ref 157), some (.int v1), some (.int v2), some (.int v3), some (.int e10), some (.int v6), some (.int (v6 + (1 : Int32)))]) hb ⟨rfl, ⟨rfl, ⟨rfl, ⟨rfl, ⟨rfl, ⟨rfl, ⟨rfl, trivial⟩⟩⟩⟩⟩⟩⟩
      · rw [if_neg hc11] at h
        refine ev_iff rfl (cn_f hc11) ?_
        refine ev_rn (n := 3) (i2 := 23) (L2 := [some (.ref 157), some (.int v1), some (.int v2), some (.int v3), some (.int v4), some (.int v5), some (.int (v6 + (1 : Int32))), some (.int e10)]) (st2 := []) (g2 := g) cdE_161 rfl ?_
        cases h
        exact ev_wk (L := [some (.ref 157), some (.int v1), some (.int v2), some (.int v3), some (.int v4), some (.int v5), some (.int (v6 + (1 : Int32)))]) hb ⟨rfl, ⟨rfl, ⟨rfl, ⟨rfl, ⟨rfl, ⟨rfl, ⟨rfl, trivial⟩⟩⟩⟩⟩⟩⟩
    exact ev_wk (L := [some (.ref 157), some (.int v1), some (.int v2), some (.int v3), some (.int v4), some (.int v5), some (.int v6), some (.int (0 : Int32))]) (lp_ind (P := (fun (s : Int32) => Ev Lx 161 cd_161 28 [some (.ref 157), some (.int v1), some (.int v2), some (.int v3), some (.int v4), some (.int v5), some (.int v6), some (.int s)] [] g o)) (fun s s2 hs hP => tb_Mo_hush_28 v1 v2 v3 v4 v5 v6  s g (b := .inl s2) hs hP) (fun s hs => tb_Mo_hush_28 v1 v2 v3 v4 v5 v6  s g (b := .inr e10) hs hX12) _ _ he10) ⟨rfl, ⟨rfl, ⟨rfl, ⟨rfl, ⟨rfl, ⟨rfl, ⟨rfl, ⟨rfl, trivial⟩⟩⟩⟩⟩⟩⟩⟩
def f_Mo_hush (p0 : Int32) (p1 : Int32) (p2 : Int32) (g : M2) : Option (Int32 × M2) := (if (f_Mo_in p2.toInt64 (0 : Int64) (1 : Int64) g) = 0 then some ((-2 : Int32), g) else (if (f_Mo_isBound p0 p1 g) = 0 then some ((-2 : Int32), g) else ((f_Mo_canNow g).bind fun q3 => (if q3.1 = 0 then some ((-2 : Int32), q3.2) else ((f_Mo_laysPowers q3.2).bind fun q5 => ((lp (fun s => b_Mo_hush_23 p0 p1 p2 s.1 s.2.1 s.2.2 q5) 5000 ((0 : Int32), (-1 : Int32), (0 : Int32))).bind fun e13 => (if p2 = 0 then some (e13.1, q5) else some (e13.2, q5))))))))
theorem e_Mo_hush {Lx : Nat} (p0 : Int32) (p1 : Int32) (p2 : Int32)  (g : M2) {b : (Int32 × M2)} (h : f_Mo_hush p0 p1 p2 g = some b) : Ev Lx 161 cd_161 0 [some (.ref 157), some (.int p0), some (.int p1), some (.int p2)] [] g (some (.int b.1), b.2) := by
  unfold f_Mo_hush at h
  refine ev_rn (n := 4) (i2 := 4) (L2 := [some (.ref 157), some (.int p0), some (.int p1), some (.int p2)]) (st2 := [.long (1 : Int64), .long (0 : Int64), .long p2.toInt64]) (g2 := g) cdE_161 rfl ?_
  refine ev_call rfl cdE_16 rfl rfl rfl (e_Mo_in p2.toInt64 (0 : Int64) (1 : Int64)  g rfl) ?_
  by_cases hc1 : (f_Mo_in p2.toInt64 (0 : Int64) (1 : Int64) g) = 0
  · rw [if_pos hc1] at h
    refine ev_zft cdE_161 rfl (cn_t hc1) ?_
    refine ev_rn (n := 1) (i2 := 14) (L2 := [some (.ref 157), some (.int p0), some (.int p1), some (.int p2)]) (st2 := [.int (-2 : Int32)]) (g2 := g) cdE_161 rfl ?_
    cases h
    exact ev_ret rfl rfl
  · rw [if_neg hc1] at h
    refine ev_zff rfl (cn_f hc1) ?_
    refine ev_rn (n := 2) (i2 := 8) (L2 := [some (.ref 157), some (.int p0), some (.int p1), some (.int p2)]) (st2 := [.int p1, .int p0]) (g2 := g) cdE_161 rfl ?_
    refine ev_call rfl cdE_159 rfl rfl rfl (e_Mo_isBound p0 p1  g rfl) ?_
    by_cases hc2 : (f_Mo_isBound p0 p1 g) = 0
    · rw [if_pos hc2] at h
      refine ev_zft cdE_161 rfl (cn_t hc2) ?_
      refine ev_rn (n := 1) (i2 := 14) (L2 := [some (.ref 157), some (.int p0), some (.int p1), some (.int p2)]) (st2 := [.int (-2 : Int32)]) (g2 := g) cdE_161 rfl ?_
      cases h
      exact ev_ret rfl rfl
    · rw [if_neg hc2] at h
      refine ev_zff rfl (cn_f hc2) ?_
      refine ev_rn (n := 1) (i2 := 11) (L2 := [some (.ref 157), some (.int p0), some (.int p1), some (.int p2)]) (st2 := [.ref 157]) (g2 := g) cdE_161 rfl ?_
      obtain ⟨q3, hq3, h⟩ := Option.bind_eq_some_iff.mp h
      refine ev_call rfl cdE_118 rfl rfl rfl (e_Mo_canNow   g hq3) ?_
      by_cases hc4 : q3.1 = 0
      · rw [if_pos hc4] at h
        refine ev_zff rfl (cn_f (fun q => q hc4)) ?_
        refine ev_rn (n := 1) (i2 := 14) (L2 := [some (.ref 157), some (.int p0), some (.int p1), some (.int p2)]) (st2 := [.int (-2 : Int32)]) (g2 := q3.2) cdE_161 rfl ?_
        cases h
        exact ev_ret rfl rfl
      · rw [if_neg hc4] at h
        refine ev_zft cdE_161 rfl (cn_t hc4) ?_
        refine ev_rn (n := 1) (i2 := 16) (L2 := [some (.ref 157), some (.int p0), some (.int p1), some (.int p2)]) (st2 := [.ref 157]) (g2 := q3.2) cdE_161 rfl ?_
        obtain ⟨q5, hq5, h⟩ := Option.bind_eq_some_iff.mp h
        refine ev_call rfl cdE_147 rfl rfl rfl (e_Mo_laysPowers   q3.2 hq5) ?_
        refine ev_rn (n := 4) (i2 := 21) (L2 := [some (.ref 157), some (.int p0), some (.int p1), some (.int p2), some (.int (0 : Int32)), some (.int (-1 : Int32))]) (st2 := []) (g2 := q5) cdE_161 rfl ?_
        refine ev_rn (n := 2) (i2 := 23) (L2 := [some (.ref 157), some (.int p0), some (.int p1), some (.int p2), some (.int (0 : Int32)), some (.int (-1 : Int32)), some (.int (0 : Int32))]) (st2 := []) (g2 := q5) cdE_161 rfl ?_
        obtain ⟨e13, he13, h⟩ := Option.bind_eq_some_iff.mp h
        have hX15 : Ev Lx 161 cd_161 53 [none, none, none, some (.int p2), some (.int e13.1), some (.int e13.2)] [] q5 (some (.int b.1), b.2) := by
          refine ev_rn (n := 1) (i2 := 54) (L2 := [none, none, none, some (.int p2), some (.int e13.1), some (.int e13.2)]) (st2 := [.int p2]) (g2 := q5) cdE_161 rfl ?_
          by_cases hc14 : p2 = 0
          · rw [if_pos hc14] at h
            refine ev_zff rfl (cn_f (fun q => q hc14)) ?_
            refine ev_rn (n := 2) (i2 := 58) (L2 := [none, none, none, some (.int p2), some (.int e13.1), some (.int e13.2)]) (st2 := [.int e13.1]) (g2 := q5) cdE_161 rfl ?_
            cases h
            exact ev_ret rfl rfl
          · rw [if_neg hc14] at h
            refine ev_zft cdE_161 rfl (cn_t hc14) ?_
            refine ev_rn (n := 1) (i2 := 58) (L2 := [none, none, none, some (.int p2), some (.int e13.1), some (.int e13.2)]) (st2 := [.int e13.2]) (g2 := q5) cdE_161 rfl ?_
            cases h
            exact ev_ret rfl rfl
        exact ev_wk (L := [some (.ref 157), some (.int p0), some (.int p1), some (.int p2), some (.int (0 : Int32)), some (.int (-1 : Int32)), some (.int (0 : Int32))]) (lp_ind (P := (fun (s : (Int32 × Int32 × Int32)) => Ev Lx 161 cd_161 23 [some (.ref 157), some (.int p0), some (.int p1), some (.int p2), some (.int s.1), some (.int s.2.1), some (.int s.2.2)] [] q5 (some (.int b.1), b.2))) (fun s s2 hs hP => tb_Mo_hush_23 p0 p1 p2  s.1 s.2.1 s.2.2 q5 (b := .inl s2) hs hP) (fun s hs => tb_Mo_hush_23 p0 p1 p2  s.1 s.2.1 s.2.2 q5 (b := .inr e13) hs hX15) _ _ he13) ⟨rfl, ⟨rfl, ⟨rfl, ⟨rfl, ⟨rfl, ⟨rfl, ⟨rfl, trivial⟩⟩⟩⟩⟩⟩⟩
def b_Da_beam_16 (v1 : Int32) (v2 : Int32) (v3 : Int32) (v4 : Int32) (g : M2) : Option ((Int32 × Int32) ⊕ Int32) := (if (12 : Int32) ≤ v4 then some (.inr v3) else ((f_So_comparePowerTo 6 v4 v1 v2 g).bind fun q5 => (if q5 < 0 then some (.inl (v3, (v4 + (1 : Int32)))) else some (.inl ((v3 ||| ((1 : Int32) <<< (v4 &&& 31))), (v4 + (1 : Int32)))))))
theorem tb_Da_beam_16 {Lx : Nat} (v1 : Int32) (v2 : Int32)  (v3 : Int32) (v4 : Int32) (g : M2) {b : (Int32 × Int32) ⊕ Int32} {o : Option Value × M2} (h : b_Da_beam_16 v1 v2 v3 v4 g = some b) (hb : Sum.elim (fun s => Ev Lx 162 cd_162 16 [some (.ref 0), some (.int v1), some (.int v2), some (.int s.1), some (.int s.2)] [] g o) (fun e => Ev Lx 162 cd_162 34 [some (.ref 0), none, none, some (.int e)] [] g o) b) : Ev Lx 162 cd_162 16 [some (.ref 0), some (.int v1), some (.int v2), some (.int v3), some (.int v4)] [] g o := by
  unfold b_Da_beam_16 at h
  refine ev_rn (n := 2) (i2 := 18) (L2 := [some (.ref 0), some (.int v1), some (.int v2), some (.int v3), some (.int v4)]) (st2 := [.int (12 : Int32), .int v4]) (g2 := g) cdE_162 rfl ?_
  by_cases hc4 : (12 : Int32) ≤ v4
  · rw [if_pos hc4] at h
    refine ev_ift cdE_162 rfl (cn_t hc4) ?_
    cases h
    exact ev_wk (L := [some (.ref 0), none, none, some (.int v3)]) hb ⟨rfl, ⟨rfl, trivial⟩⟩
  · rw [if_neg hc4] at h
    refine ev_iff rfl (cn_f hc4) ?_
    refine ev_rn (n := 5) (i2 := 24) (L2 := [some (.ref 0), some (.int v1), some (.int v2), some (.int v3), some (.int v4)]) (st2 := [.int v2, .int v1, .int v4, .ref 6]) (g2 := g) cdE_162 rfl ?_
    obtain ⟨q5, hq5, h⟩ := Option.bind_eq_some_iff.mp h
    refine ev_call rfl cdE_156 rfl rfl rfl (e_So_comparePowerTo 6 v4 v1 v2 (by decide) g hq5) ?_
    by_cases hc6 : q5 < 0
    · rw [if_pos hc6] at h
      refine ev_zft cdE_162 rfl (cn_t hc6) ?_
      refine ev_rn (n := 2) (i2 := 16) (L2 := [some (.ref 0), some (.int v1), some (.int v2), some (.int v3), some (.int (v4 + (1 : Int32)))]) (st2 := []) (g2 := g) cdE_162 rfl ?_
      cases h
      exact ev_wk (L := [some (.ref 0), some (.int v1), some (.int v2), some (.int v3), some (.int (v4 + (1 : Int32)))]) hb ⟨rfl, ⟨rfl, ⟨rfl, ⟨rfl, ⟨rfl, trivial⟩⟩⟩⟩⟩
    · rw [if_neg hc6] at h
      refine ev_zff rfl (cn_f hc6) ?_
      refine ev_rn (n := 7) (i2 := 33) (L2 := [some (.ref 0), some (.int v1), some (.int v2), some (.int (v3 ||| ((1 : Int32) <<< (v4 &&& 31)))), some (.int (v4 + (1 : Int32)))]) (st2 := []) (g2 := g) cdE_162 rfl ?_
      refine ev_rn (n := 1) (i2 := 16) (L2 := [some (.ref 0), some (.int v1), some (.int v2), some (.int (v3 ||| ((1 : Int32) <<< (v4 &&& 31)))), some (.int (v4 + (1 : Int32)))]) (st2 := []) (g2 := g) cdE_162 rfl ?_
      cases h
      exact ev_wk (L := [some (.ref 0), some (.int v1), some (.int v2), some (.int (v3 ||| ((1 : Int32) <<< (v4 &&& 31)))), some (.int (v4 + (1 : Int32)))]) hb ⟨rfl, ⟨rfl, ⟨rfl, ⟨rfl, ⟨rfl, trivial⟩⟩⟩⟩⟩
def f_Da_beam (p0 : Int32) (p1 : Int32) (g : M2) : Option (Int32 × M2) := ((f_Da_refresh g).bind fun q1 => (if (q1.1 6 13) = 0 then some ((-2 : Int32), q1) else (if (f_Da_isFraction p0 p1 q1) = 0 then some ((-2 : Int32), q1) else ((lp (fun s => b_Da_beam_16 p0 p1 s.1 s.2 q1) 5000 ((0 : Int32), (0 : Int32))).bind fun e7 => ((f_Da_rowFrom e7 (q1.1 7 4) (1 : Int32) q1).bind fun q8 => ((f_Da_rowFrom e7 (q1.1 7 4) (11 : Int32) q1).bind fun q9 => (if q8 = 0 then some ((0 : Int32), q1) else some ((f_Ma_min (12 : Int32) ((q8 + q9) - (1 : Int32)) q1), q1))))))))
theorem e_Da_beam {Lx : Nat} (p0 : Int32) (p1 : Int32)  (g : M2) {b : (Int32 × M2)} (h : f_Da_beam p0 p1 g = some b) : Ev Lx 162 cd_162 0 [some (.ref 0), some (.int p0), some (.int p1)] [] g (some (.int b.1), b.2) := by
  unfold f_Da_beam at h
  refine ev_rn (n := 1) (i2 := 1) (L2 := [some (.ref 0), some (.int p0), some (.int p1)]) (st2 := [.ref 0]) (g2 := g) cdE_162 rfl ?_
  obtain ⟨q1, hq1, h⟩ := Option.bind_eq_some_iff.mp h
  refine ev_call rfl cdE_100 rfl rfl rfl (e_Da_refresh   g hq1) ?_
  refine ev_rn (n := 3) (i2 := 5) (L2 := [some (.ref 0), some (.int p0), some (.int p1)]) (st2 := [.int (q1.1 6 13)]) (g2 := q1) cdE_162 rfl ?_
  by_cases hc2 : (q1.1 6 13) = 0
  · rw [if_pos hc2] at h
    refine ev_zft cdE_162 rfl (cn_t hc2) ?_
    refine ev_rn (n := 1) (i2 := 11) (L2 := [some (.ref 0), some (.int p0), some (.int p1)]) (st2 := [.int (-2 : Int32)]) (g2 := q1) cdE_162 rfl ?_
    cases h
    exact ev_ret rfl rfl
  · rw [if_neg hc2] at h
    refine ev_zff rfl (cn_f hc2) ?_
    refine ev_rn (n := 2) (i2 := 8) (L2 := [some (.ref 0), some (.int p0), some (.int p1)]) (st2 := [.int p1, .int p0]) (g2 := q1) cdE_162 rfl ?_
    refine ev_call rfl cdE_154 rfl rfl rfl (e_Da_isFraction p0 p1  q1 rfl) ?_
    by_cases hc3 : (f_Da_isFraction p0 p1 q1) = 0
    · rw [if_pos hc3] at h
      refine ev_zff rfl (cn_f (fun q => q hc3)) ?_
      refine ev_rn (n := 1) (i2 := 11) (L2 := [some (.ref 0), some (.int p0), some (.int p1)]) (st2 := [.int (-2 : Int32)]) (g2 := q1) cdE_162 rfl ?_
      cases h
      exact ev_ret rfl rfl
    · rw [if_neg hc3] at h
      refine ev_zft cdE_162 rfl (cn_t hc3) ?_
      refine ev_rn (n := 4) (i2 := 16) (L2 := [some (.ref 0), some (.int p0), some (.int p1), some (.int (0 : Int32)), some (.int (0 : Int32))]) (st2 := []) (g2 := q1) cdE_162 rfl ?_
      obtain ⟨e7, he7, h⟩ := Option.bind_eq_some_iff.mp h
      have hX11 : Ev Lx 162 cd_162 34 [some (.ref 0), none, none, some (.int e7)] [] q1 (some (.int b.1), b.2) := by
        refine ev_rn (n := 6) (i2 := 40) (L2 := [some (.ref 0), none, none, some (.int e7)]) (st2 := [.int (1 : Int32), .int (q1.1 7 4), .int e7]) (g2 := q1) cdE_162 rfl ?_
        obtain ⟨q8, hq8, h⟩ := Option.bind_eq_some_iff.mp h
        refine ev_call rfl cdE_157 rfl rfl rfl (e_Da_rowFrom e7 (q1.1 7 4) (1 : Int32)  q1 hq8) ?_
        refine ev_rn (n := 7) (i2 := 48) (L2 := [some (.ref 0), none, none, some (.int e7), some (.int q8)]) (st2 := [.int (11 : Int32), .int (q1.1 7 4), .int e7]) (g2 := q1) cdE_162 rfl ?_
        obtain ⟨q9, hq9, h⟩ := Option.bind_eq_some_iff.mp h
        refine ev_call rfl cdE_157 rfl rfl rfl (e_Da_rowFrom e7 (q1.1 7 4) (11 : Int32)  q1 hq9) ?_
        refine ev_rn (n := 2) (i2 := 51) (L2 := [some (.ref 0), none, none, some (.int e7), some (.int q8), some (.int q9)]) (st2 := [.int q8]) (g2 := q1) cdE_162 rfl ?_
        by_cases hc10 : q8 = 0
        · rw [if_pos hc10] at h
          refine ev_zff rfl (cn_f (fun q => q hc10)) ?_
          refine ev_rn (n := 2) (i2 := 61) (L2 := [some (.ref 0), none, none, some (.int e7), some (.int q8), some (.int q9)]) (st2 := [.int (0 : Int32)]) (g2 := q1) cdE_162 rfl ?_
          cases h
          exact ev_ret rfl rfl
        · rw [if_neg hc10] at h
          refine ev_zft cdE_162 rfl (cn_t hc10) ?_
          refine ev_rn (n := 6) (i2 := 60) (L2 := [some (.ref 0), none, none, some (.int e7), some (.int q8), some (.int q9)]) (st2 := [.int ((q8 + q9) - (1 : Int32)), .int (12 : Int32)]) (g2 := q1) cdE_162 rfl ?_
          refine ev_call rfl cdE_21 rfl rfl rfl (e_Ma_min (12 : Int32) ((q8 + q9) - (1 : Int32))  q1 rfl) ?_
          cases h
          exact ev_ret rfl rfl
      exact ev_wk (L := [some (.ref 0), some (.int p0), some (.int p1), some (.int (0 : Int32)), some (.int (0 : Int32))]) (lp_ind (P := (fun (s : (Int32 × Int32)) => Ev Lx 162 cd_162 16 [some (.ref 0), some (.int p0), some (.int p1), some (.int s.1), some (.int s.2)] [] q1 (some (.int b.1), b.2))) (fun s s2 hs hP => tb_Da_beam_16 p0 p1  s.1 s.2 q1 (b := .inl s2) hs hP) (fun s hs => tb_Da_beam_16 p0 p1  s.1 s.2 q1 (b := .inr e7) hs hX11) _ _ he7) ⟨rfl, ⟨rfl, ⟨rfl, ⟨rfl, ⟨rfl, trivial⟩⟩⟩⟩⟩
def b_Mo_beam_16 (v1 : Int32) (v2 : Int32) (v3 : Int32) (v4 : Int32) (g : M2) : Option ((Int32 × Int32) ⊕ Int32) := (if (12 : Int32) ≤ v3 then some (.inr v3) else ((f_Mo_byBound v4 v1 v2 g).bind fun q7 => (if q7 < 0 then some (.inr v3) else some (.inl ((v3 + (1 : Int32)), ((v4 + (1 : Int32)) - (v4 + (1 : Int32)) / (12 : Int32) * (12 : Int32)))))))
theorem tb_Mo_beam_16 {Lx : Nat} (v1 : Int32) (v2 : Int32)  (v3 : Int32) (v4 : Int32) (g : M2) {b : (Int32 × Int32) ⊕ Int32} {o : Option Value × M2} (h : b_Mo_beam_16 v1 v2 v3 v4 g = some b) (hb : Sum.elim (fun s => Ev Lx 163 cd_163 16 [some (.ref 157), some (.int v1), some (.int v2), some (.int s.1), some (.int s.2)] [] g o) (fun e => Ev Lx 163 cd_163 33 [some (.ref 157), some (.int v1), some (.int v2), some (.int e)] [] g o) b) : Ev Lx 163 cd_163 16 [some (.ref 157), some (.int v1), some (.int v2), some (.int v3), some (.int v4)] [] g o := by
  unfold b_Mo_beam_16 at h
  refine ev_rn (n := 2) (i2 := 18) (L2 := [some (.ref 157), some (.int v1), some (.int v2), some (.int v3), some (.int v4)]) (st2 := [.int (12 : Int32), .int v3]) (g2 := g) cdE_163 rfl ?_
  by_cases hc6 : (12 : Int32) ≤ v3
  · rw [if_pos hc6] at h
    refine ev_ift cdE_163 rfl (cn_t hc6) ?_
    cases h
    exact ev_wk (L := [some (.ref 157), some (.int v1), some (.int v2), some (.int v3)]) hb ⟨rfl, ⟨rfl, ⟨rfl, ⟨rfl, trivial⟩⟩⟩⟩
  · rw [if_neg hc6] at h
    refine ev_iff rfl (cn_f hc6) ?_
    refine ev_rn (n := 4) (i2 := 23) (L2 := [some (.ref 157), some (.int v1), some (.int v2), some (.int v3), some (.int v4)]) (st2 := [.int v2, .int v1, .int v4, .ref 157]) (g2 := g) cdE_163 rfl ?_
    obtain ⟨q7, hq7, h⟩ := Option.bind_eq_some_iff.mp h
    refine ev_call rfl cdE_160 rfl rfl rfl (e_Mo_byBound v4 v1 v2  g hq7) ?_
    by_cases hc8 : q7 < 0
    · rw [if_pos hc8] at h
      refine ev_zft cdE_163 rfl (cn_t hc8) ?_
      cases h
      exact ev_wk (L := [some (.ref 157), some (.int v1), some (.int v2), some (.int v3)]) hb ⟨rfl, ⟨rfl, ⟨rfl, ⟨rfl, trivial⟩⟩⟩⟩
    · rw [if_neg hc8] at h
      refine ev_zff rfl (cn_f hc8) ?_
      refine ev_rn (n := 5) (i2 := 30) (L2 := [some (.ref 157), some (.int v1), some (.int v2), some (.int (v3 + (1 : Int32))), some (.int v4)]) (st2 := [.int (12 : Int32), .int (v4 + (1 : Int32))]) (g2 := g) cdE_163 rfl ?_
      refine ev_irem rfl (by decide) ?_
      refine ev_rn (n := 2) (i2 := 16) (L2 := [some (.ref 157), some (.int v1), some (.int v2), some (.int (v3 + (1 : Int32))), some (.int ((v4 + (1 : Int32)) - (v4 + (1 : Int32)) / (12 : Int32) * (12 : Int32)))]) (st2 := []) (g2 := g) cdE_163 rfl ?_
      cases h
      exact ev_wk (L := [some (.ref 157), some (.int v1), some (.int v2), some (.int (v3 + (1 : Int32))), some (.int ((v4 + (1 : Int32)) - (v4 + (1 : Int32)) / (12 : Int32) * (12 : Int32)))]) hb ⟨rfl, ⟨rfl, ⟨rfl, ⟨rfl, ⟨rfl, trivial⟩⟩⟩⟩⟩
def b_Mo_beam_42 (v1 : Int32) (v2 : Int32) (v3 : Int32) (v4 : Int32) (g : M2) : Option ((Int32 × Int32) ⊕ Int32) := (if v3 ≤ 0 then some (.inr v3) else (if (12 : Int32) ≤ v3 then some (.inr v3) else ((f_Mo_byBound v4 v1 v2 g).bind fun q13 => (if q13 < 0 then some (.inr v3) else some (.inl ((v3 + (1 : Int32)), (((v4 + (12 : Int32)) - (1 : Int32)) - ((v4 + (12 : Int32)) - (1 : Int32)) / (12 : Int32) * (12 : Int32))))))))
theorem tb_Mo_beam_42 {Lx : Nat} (v1 : Int32) (v2 : Int32)  (v3 : Int32) (v4 : Int32) (g : M2) {b : (Int32 × Int32) ⊕ Int32} {o : Option Value × M2} (h : b_Mo_beam_42 v1 v2 v3 v4 g = some b) (hb : Sum.elim (fun s => Ev Lx 163 cd_163 42 [some (.ref 157), some (.int v1), some (.int v2), some (.int s.1), some (.int s.2)] [] g o) (fun e => Ev Lx 163 cd_163 63 [none, none, none, some (.int e)] [] g o) b) : Ev Lx 163 cd_163 42 [some (.ref 157), some (.int v1), some (.int v2), some (.int v3), some (.int v4)] [] g o := by
  unfold b_Mo_beam_42 at h
  refine ev_rn (n := 1) (i2 := 43) (L2 := [some (.ref 157), some (.int v1), some (.int v2), some (.int v3), some (.int v4)]) (st2 := [.int v3]) (g2 := g) cdE_163 rfl ?_
  by_cases hc11 : v3 ≤ 0
  · rw [if_pos hc11] at h
    refine ev_zft cdE_163 rfl (cn_t hc11) ?_
    cases h
    exact ev_wk (L := [none, none, none, some (.int v3)]) hb ⟨rfl, trivial⟩
  · rw [if_neg hc11] at h
    refine ev_zff rfl (cn_f hc11) ?_
    refine ev_rn (n := 2) (i2 := 46) (L2 := [some (.ref 157), some (.int v1), some (.int v2), some (.int v3), some (.int v4)]) (st2 := [.int (12 : Int32), .int v3]) (g2 := g) cdE_163 rfl ?_
    by_cases hc12 : (12 : Int32) ≤ v3
    · rw [if_pos hc12] at h
      refine ev_ift cdE_163 rfl (cn_t hc12) ?_
      cases h
      exact ev_wk (L := [none, none, none, some (.int v3)]) hb ⟨rfl, trivial⟩
    · rw [if_neg hc12] at h
      refine ev_iff rfl (cn_f hc12) ?_
      refine ev_rn (n := 4) (i2 := 51) (L2 := [some (.ref 157), some (.int v1), some (.int v2), some (.int v3), some (.int v4)]) (st2 := [.int v2, .int v1, .int v4, .ref 157]) (g2 := g) cdE_163 rfl ?_
      obtain ⟨q13, hq13, h⟩ := Option.bind_eq_some_iff.mp h
      refine ev_call rfl cdE_160 rfl rfl rfl (e_Mo_byBound v4 v1 v2  g hq13) ?_
      by_cases hc14 : q13 < 0
      · rw [if_pos hc14] at h
        refine ev_zft cdE_163 rfl (cn_t hc14) ?_
        cases h
        exact ev_wk (L := [none, none, none, some (.int v3)]) hb ⟨rfl, trivial⟩
      · rw [if_neg hc14] at h
        refine ev_zff rfl (cn_f hc14) ?_
        refine ev_rn (n := 7) (i2 := 60) (L2 := [some (.ref 157), some (.int v1), some (.int v2), some (.int (v3 + (1 : Int32))), some (.int v4)]) (st2 := [.int (12 : Int32), .int ((v4 + (12 : Int32)) - (1 : Int32))]) (g2 := g) cdE_163 rfl ?_
        refine ev_irem rfl (by decide) ?_
        refine ev_rn (n := 2) (i2 := 42) (L2 := [some (.ref 157), some (.int v1), some (.int v2), some (.int (v3 + (1 : Int32))), some (.int (((v4 + (12 : Int32)) - (1 : Int32)) - ((v4 + (12 : Int32)) - (1 : Int32)) / (12 : Int32) * (12 : Int32)))]) (st2 := []) (g2 := g) cdE_163 rfl ?_
        cases h
        exact ev_wk (L := [some (.ref 157), some (.int v1), some (.int v2), some (.int (v3 + (1 : Int32))), some (.int (((v4 + (12 : Int32)) - (1 : Int32)) - ((v4 + (12 : Int32)) - (1 : Int32)) / (12 : Int32) * (12 : Int32)))]) hb ⟨rfl, ⟨rfl, ⟨rfl, ⟨rfl, ⟨rfl, trivial⟩⟩⟩⟩⟩
def j_Mo_beam_33 (v1 : Int32) (v2 : Int32) (v3 : Int32) (g : M2) : Option (Int32 × M2) := ((f_Mo_lookNow g).bind fun q10 => ((lp (fun s => b_Mo_beam_42 v1 v2 s.1 s.2 g) 5000 (v3, (((q10 + (12 : Int32)) - (1 : Int32)) - ((q10 + (12 : Int32)) - (1 : Int32)) / (12 : Int32) * (12 : Int32)))).bind fun e15 => some (e15, g)))
theorem tj_Mo_beam_33 {Lx : Nat}  (v1 : Int32) (v2 : Int32) (v3 : Int32)  (g : M2) {b : (Int32 × M2)} (h : j_Mo_beam_33 v1 v2 v3 g = some b) : Ev Lx 163 cd_163 33 [some (.ref 157), some (.int v1), some (.int v2), some (.int v3)] [] g (some (.int b.1), b.2) := by
  unfold j_Mo_beam_33 at h
  refine ev_rn (n := 1) (i2 := 34) (L2 := [some (.ref 157), some (.int v1), some (.int v2), some (.int v3)]) (st2 := [.ref 157]) (g2 := g) cdE_163 rfl ?_
  obtain ⟨q10, hq10, h⟩ := Option.bind_eq_some_iff.mp h
  refine ev_call rfl cdE_63 rfl rfl rfl (e_Mo_lookNow   g hq10) ?_
  refine ev_rn (n := 5) (i2 := 40) (L2 := [some (.ref 157), some (.int v1), some (.int v2), some (.int v3)]) (st2 := [.int (12 : Int32), .int ((q10 + (12 : Int32)) - (1 : Int32))]) (g2 := g) cdE_163 rfl ?_
  refine ev_irem rfl (by decide) ?_
  refine ev_rn (n := 1) (i2 := 42) (L2 := [some (.ref 157), some (.int v1), some (.int v2), some (.int v3), some (.int (((q10 + (12 : Int32)) - (1 : Int32)) - ((q10 + (12 : Int32)) - (1 : Int32)) / (12 : Int32) * (12 : Int32)))]) (st2 := []) (g2 := g) cdE_163 rfl ?_
  obtain ⟨e15, he15, h⟩ := Option.bind_eq_some_iff.mp h
  have hX16 : Ev Lx 163 cd_163 63 [none, none, none, some (.int e15)] [] g (some (.int b.1), b.2) := by
    refine ev_rn (n := 1) (i2 := 64) (L2 := [none, none, none, some (.int e15)]) (st2 := [.int e15]) (g2 := g) cdE_163 rfl ?_
    cases h
    exact ev_ret rfl rfl
  exact ev_wk (L := [some (.ref 157), some (.int v1), some (.int v2), some (.int v3), some (.int (((q10 + (12 : Int32)) - (1 : Int32)) - ((q10 + (12 : Int32)) - (1 : Int32)) / (12 : Int32) * (12 : Int32)))]) (lp_ind (P := (fun (s : (Int32 × Int32)) => Ev Lx 163 cd_163 42 [some (.ref 157), some (.int v1), some (.int v2), some (.int s.1), some (.int s.2)] [] g (some (.int b.1), b.2))) (fun s s2 hs hP => tb_Mo_beam_42 v1 v2  s.1 s.2 g (b := .inl s2) hs hP) (fun s hs => tb_Mo_beam_42 v1 v2  s.1 s.2 g (b := .inr e15) hs hX16) _ _ he15) ⟨rfl, ⟨rfl, ⟨rfl, ⟨rfl, ⟨rfl, trivial⟩⟩⟩⟩⟩
def f_Mo_beam (p0 : Int32) (p1 : Int32) (g : M2) : Option (Int32 × M2) := (if (f_Mo_isBound p0 p1 g) = 0 then some ((-2 : Int32), g) else ((f_Mo_canNow g).bind fun q2 => (if q2.1 = 0 then some ((-2 : Int32), q2.2) else ((f_Mo_laysPowers q2.2).bind fun q4 => ((f_Mo_lookNow q4).bind fun q5 => ((lp (fun s => b_Mo_beam_16 p0 p1 s.1 s.2 q4) 5000 ((0 : Int32), q5)).bind fun e9 => (j_Mo_beam_33 p0 p1 e9 q4)))))))
theorem e_Mo_beam {Lx : Nat} (p0 : Int32) (p1 : Int32)  (g : M2) {b : (Int32 × M2)} (h : f_Mo_beam p0 p1 g = some b) : Ev Lx 163 cd_163 0 [some (.ref 157), some (.int p0), some (.int p1)] [] g (some (.int b.1), b.2) := by
  unfold f_Mo_beam at h
  refine ev_rn (n := 2) (i2 := 2) (L2 := [some (.ref 157), some (.int p0), some (.int p1)]) (st2 := [.int p1, .int p0]) (g2 := g) cdE_163 rfl ?_
  refine ev_call rfl cdE_159 rfl rfl rfl (e_Mo_isBound p0 p1  g rfl) ?_
  by_cases hc1 : (f_Mo_isBound p0 p1 g) = 0
  · rw [if_pos hc1] at h
    refine ev_zft cdE_163 rfl (cn_t hc1) ?_
    refine ev_rn (n := 1) (i2 := 8) (L2 := [some (.ref 157), some (.int p0), some (.int p1)]) (st2 := [.int (-2 : Int32)]) (g2 := g) cdE_163 rfl ?_
    cases h
    exact ev_ret rfl rfl
  · rw [if_neg hc1] at h
    refine ev_zff rfl (cn_f hc1) ?_
    refine ev_rn (n := 1) (i2 := 5) (L2 := [some (.ref 157), some (.int p0), some (.int p1)]) (st2 := [.ref 157]) (g2 := g) cdE_163 rfl ?_
    obtain ⟨q2, hq2, h⟩ := Option.bind_eq_some_iff.mp h
    refine ev_call rfl cdE_118 rfl rfl rfl (e_Mo_canNow   g hq2) ?_
    by_cases hc3 : q2.1 = 0
    · rw [if_pos hc3] at h
      refine ev_zff rfl (cn_f (fun q => q hc3)) ?_
      refine ev_rn (n := 1) (i2 := 8) (L2 := [some (.ref 157), some (.int p0), some (.int p1)]) (st2 := [.int (-2 : Int32)]) (g2 := q2.2) cdE_163 rfl ?_
      cases h
      exact ev_ret rfl rfl
    · rw [if_neg hc3] at h
      refine ev_zft cdE_163 rfl (cn_t hc3) ?_
      refine ev_rn (n := 1) (i2 := 10) (L2 := [some (.ref 157), some (.int p0), some (.int p1)]) (st2 := [.ref 157]) (g2 := q2.2) cdE_163 rfl ?_
      obtain ⟨q4, hq4, h⟩ := Option.bind_eq_some_iff.mp h
      refine ev_call rfl cdE_147 rfl rfl rfl (e_Mo_laysPowers   q2.2 hq4) ?_
      refine ev_rn (n := 3) (i2 := 14) (L2 := [some (.ref 157), some (.int p0), some (.int p1), some (.int (0 : Int32))]) (st2 := [.ref 157]) (g2 := q4) cdE_163 rfl ?_
      obtain ⟨q5, hq5, h⟩ := Option.bind_eq_some_iff.mp h
      refine ev_call rfl cdE_63 rfl rfl rfl (e_Mo_lookNow   q4 hq5) ?_
      refine ev_rn (n := 1) (i2 := 16) (L2 := [some (.ref 157), some (.int p0), some (.int p1), some (.int (0 : Int32)), some (.int q5)]) (st2 := []) (g2 := q4) cdE_163 rfl ?_
      obtain ⟨e9, he9, h⟩ := Option.bind_eq_some_iff.mp h
      have hX17 : Ev Lx 163 cd_163 33 [some (.ref 157), some (.int p0), some (.int p1), some (.int e9)] [] q4 (some (.int b.1), b.2) := by
        exact ev_wk (L := [some (.ref 157), some (.int p0), some (.int p1), some (.int e9)]) (tj_Mo_beam_33  p0 p1 e9  q4 h) ⟨rfl, ⟨rfl, ⟨rfl, ⟨rfl, trivial⟩⟩⟩⟩
      exact ev_wk (L := [some (.ref 157), some (.int p0), some (.int p1), some (.int (0 : Int32)), some (.int q5)]) (lp_ind (P := (fun (s : (Int32 × Int32)) => Ev Lx 163 cd_163 16 [some (.ref 157), some (.int p0), some (.int p1), some (.int s.1), some (.int s.2)] [] q4 (some (.int b.1), b.2))) (fun s s2 hs hP => tb_Mo_beam_16 p0 p1  s.1 s.2 q4 (b := .inl s2) hs hP) (fun s hs => tb_Mo_beam_16 p0 p1  s.1 s.2 q4 (b := .inr e9) hs hX17) _ _ he9) ⟨rfl, ⟨rfl, ⟨rfl, ⟨rfl, ⟨rfl, trivial⟩⟩⟩⟩⟩
def f_Da_share (p0 : Int32) (p1 : Int32) (g : M2) : Option (Int64 × M2) := ((f_Da_refresh g).bind fun q1 => (if (q1.1 6 13) = 0 then some ((-9223372036854775808 : Int64), q1) else (if (f_Da_isAmong p0 (q1.1 6 11) q1) = 0 then some ((-9223372036854775808 : Int64), q1) else (if inb p0 5 then ((f_Da_partOf (43 + 1 + p0.toNatClampNeg) (q1.2 6 16) p1 q1).bind fun q5 => some (q5.1, q5.2)) else none))))
theorem e_Da_share {Lx : Nat} (p0 : Int32) (p1 : Int32)  (g : M2) {b : (Int64 × M2)} (h : f_Da_share p0 p1 g = some b) : Ev Lx 164 cd_164 0 [some (.ref 0), some (.int p0), some (.int p1)] [] g (some (.long b.1), b.2) := by
  unfold f_Da_share at h
  refine ev_rn (n := 1) (i2 := 1) (L2 := [some (.ref 0), some (.int p0), some (.int p1)]) (st2 := [.ref 0]) (g2 := g) cdE_164 rfl ?_
  obtain ⟨q1, hq1, h⟩ := Option.bind_eq_some_iff.mp h
  refine ev_call rfl cdE_100 rfl rfl rfl (e_Da_refresh   g hq1) ?_
  refine ev_rn (n := 3) (i2 := 5) (L2 := [some (.ref 0), some (.int p0), some (.int p1)]) (st2 := [.int (q1.1 6 13)]) (g2 := q1) cdE_164 rfl ?_
  by_cases hc2 : (q1.1 6 13) = 0
  · rw [if_pos hc2] at h
    refine ev_zft cdE_164 rfl (cn_t hc2) ?_
    refine ev_rn (n := 1) (i2 := 13) (L2 := [some (.ref 0), some (.int p0), some (.int p1)]) (st2 := [.long (-9223372036854775808 : Int64)]) (g2 := q1) cdE_164 rfl ?_
    cases h
    exact ev_ret rfl rfl
  · rw [if_neg hc2] at h
    refine ev_zff rfl (cn_f hc2) ?_
    refine ev_rn (n := 4) (i2 := 10) (L2 := [some (.ref 0), some (.int p0), some (.int p1)]) (st2 := [.int (q1.1 6 11), .int p0]) (g2 := q1) cdE_164 rfl ?_
    refine ev_call rfl cdE_65 rfl rfl rfl (e_Da_isAmong p0 (q1.1 6 11)  q1 rfl) ?_
    by_cases hc3 : (f_Da_isAmong p0 (q1.1 6 11) q1) = 0
    · rw [if_pos hc3] at h
      refine ev_zff rfl (cn_f (fun q => q hc3)) ?_
      refine ev_rn (n := 1) (i2 := 13) (L2 := [some (.ref 0), some (.int p0), some (.int p1)]) (st2 := [.long (-9223372036854775808 : Int64)]) (g2 := q1) cdE_164 rfl ?_
      cases h
      exact ev_ret rfl rfl
    · rw [if_neg hc3] at h
      refine ev_zft cdE_164 rfl (cn_t hc3) ?_
      refine ev_rn (n := 5) (i2 := 19) (L2 := [some (.ref 0), some (.int p0), some (.int p1)]) (st2 := [.int p0, .ref 43, .ref 0]) (g2 := q1) cdE_164 rfl ?_
      by_cases hi4 : inb p0 5
      · rw [if_pos hi4] at h
        refine ev_aaload (v := .ref (43 + 1 + p0.toNatClampNeg)) rfl (kd_of (na_at (na_43))) (by decide) hi4 (na_rf (w := 43) hi4.2) ?_
        refine ev_rn (n := 4) (i2 := 24) (L2 := [some (.ref 0), some (.int p0), some (.int p1)]) (st2 := [.int p1, .long (q1.2 6 16), .ref (43 + 1 + p0.toNatClampNeg), .ref 0]) (g2 := q1) cdE_164 rfl ?_
        obtain ⟨q5, hq5, h⟩ := Option.bind_eq_some_iff.mp h
        refine ev_call rfl cdE_128 rfl rfl rfl (e_Da_partOf (43 + 1 + p0.toNatClampNeg) (q1.2 6 16) p1 (na_el (na_43) hi4.2) q1 hq5) ?_
        cases h
        exact ev_ret rfl rfl
      · rw [if_neg hi4] at h
        cases h
def b_Mo_share_23 (v1 : Int32) (v2 : Int32) (v3 : Int32) (g : M2) : Option (Int32 ⊕ (Unit ⊕ (Int64 × M2))) := (if (g.1 157 14) ≤ v3 then some (.inr (.inl ())) else (if inb v3 5 then (if (g.1 165 v3.toNatClampNeg) = v1 then ((f_Mo_clears (87 : Int32) g).bind fun q8 => ((f_Mo_addsProduct (87 : Int32) ((57 : Int32) + v3) (79 : Int32) (1 : Int64) q8).bind fun q9 => ((f_Mo_told (87 : Int32) (q9.2 157 16) v2 q9).bind fun q10 => some (.inr (.inr (q10, q9)))))) else some (.inl (v3 + (1 : Int32)))) else none))
theorem tb_Mo_share_23 {Lx : Nat} (v1 : Int32) (v2 : Int32)  (v3 : Int32) (g : M2) {b : Int32 ⊕ (Unit ⊕ (Int64 × M2))} {o : Option Value × M2} (h : b_Mo_share_23 v1 v2 v3 g = some b) (hb : Sum.elim (fun s => Ev Lx 165 cd_165 23 [some (.ref 157), some (.int v1), some (.int v2), some (.int s)] [] g o) (Sum.elim (fun e => Ev Lx 165 cd_165 54 [none, none, some (.int v2)] [] g o) (fun r => o = (some (.long r.1), r.2))) b) : Ev Lx 165 cd_165 23 [some (.ref 157), some (.int v1), some (.int v2), some (.int v3)] [] g o := by
  unfold b_Mo_share_23 at h
  refine ev_rn (n := 3) (i2 := 26) (L2 := [some (.ref 157), some (.int v1), some (.int v2), some (.int v3)]) (st2 := [.int (g.1 157 14), .int v3]) (g2 := g) cdE_165 rfl ?_
  by_cases hc5 : (g.1 157 14) ≤ v3
  · rw [if_pos hc5] at h
    refine ev_ift cdE_165 rfl (cn_t hc5) ?_
    cases h
    exact ev_wk (L := [none, none, some (.int v2)]) hb ⟨rfl, trivial⟩
  · rw [if_neg hc5] at h
    refine ev_iff rfl (cn_f hc5) ?_
    refine ev_rn (n := 3) (i2 := 30) (L2 := [some (.ref 157), some (.int v1), some (.int v2), some (.int v3)]) (st2 := [.int v3, .ref 165]) (g2 := g) cdE_165 rfl ?_
    by_cases hi6 : inb v3 5
    · rw [if_pos hi6] at h
      refine ev_iaload (v := .int (g.1 165 v3.toNatClampNeg)) rfl (kd_of (show S0[165]? = some (100, 5, List.replicate 5 none) from rfl)) (by decide) hi6 rfl ?_
      refine ev_rn (n := 1) (i2 := 32) (L2 := [some (.ref 157), some (.int v1), some (.int v2), some (.int v3)]) (st2 := [.int v1, .int (g.1 165 v3.toNatClampNeg)]) (g2 := g) cdE_165 rfl ?_
      by_cases hc7 : (g.1 165 v3.toNatClampNeg) = v1
      · rw [if_pos hc7] at h
        refine ev_ift cdE_165 rfl (cn_t hc7) ?_
        refine ev_rn (n := 2) (i2 := 36) (L2 := [some (.ref 157), some (.int v1), some (.int v2), some (.int v3)]) (st2 := [.int (87 : Int32), .ref 157]) (g2 := g) cdE_165 rfl ?_
        obtain ⟨q8, hq8, h⟩ := Option.bind_eq_some_iff.mp h
        refine ev_call rfl cdE_104 rfl rfl rfl (e_Mo_clears (87 : Int32)  g hq8) ?_
        refine ev_rn (n := 7) (i2 := 44) (L2 := [some (.ref 157), some (.int v1), some (.int v2), some (.int v3)]) (st2 := [.long (1 : Int64), .int (79 : Int32), .int ((57 : Int32) + v3), .int (87 : Int32), .ref 157]) (g2 := q8) cdE_165 rfl ?_
        obtain ⟨q9, hq9, h⟩ := Option.bind_eq_some_iff.mp h
        refine ev_call rfl cdE_108 rfl rfl rfl (e_Mo_addsProduct (87 : Int32) ((57 : Int32) + v3) (79 : Int32) (1 : Int64)  q8 hq9) ?_
        refine ev_rn (n := 5) (i2 := 50) (L2 := [some (.ref 157), some (.int v1), some (.int v2), some (.int v3)]) (st2 := [.int v2, .long (q9.2 157 16), .int (87 : Int32), .ref 157]) (g2 := q9) cdE_165 rfl ?_
        obtain ⟨q10, hq10, h⟩ := Option.bind_eq_some_iff.mp h
        refine ev_call rfl cdE_131 rfl rfl rfl (e_Mo_told (87 : Int32) (q9.2 157 16) v2  q9 hq10) ?_
        cases h
        cases hb
        exact ev_ret rfl rfl
      · rw [if_neg hc7] at h
        refine ev_iff rfl (cn_f hc7) ?_
        refine ev_rn (n := 3) (i2 := 23) (L2 := [some (.ref 157), some (.int v1), some (.int v2), some (.int (v3 + (1 : Int32)))]) (st2 := []) (g2 := g) cdE_165 rfl ?_
        cases h
        exact ev_wk (L := [some (.ref 157), some (.int v1), some (.int v2), some (.int (v3 + (1 : Int32)))]) hb ⟨rfl, ⟨rfl, ⟨rfl, ⟨rfl, trivial⟩⟩⟩⟩
    · rw [if_neg hi6] at h
      cases h
def f_Mo_share (p0 : Int32) (p1 : Int32) (g : M2) : Option (Int64 × M2) := (if (f_Mo_in p1.toInt64 (0 : Int64) (4 : Int64) g) = 0 then some ((-9223372036854775808 : Int64), g) else ((f_Mo_canNow g).bind fun q2 => (if q2.1 = 0 then some ((-9223372036854775808 : Int64), q2.2) else (if (f_Mo_in p0.toInt64 (0 : Int64) ((q2.2.1 157 10) - (1 : Int32)).toInt64 q2.2) = 0 then some ((-9223372036854775808 : Int64), q2.2) else ((lp (fun s => b_Mo_share_23 p0 p1 s q2.2) 5000 (0 : Int32)).bind fun ue11 => Sum.elim (fun e11 => (if p1 = (4 : Int32) then some ((1 : Int64), q2.2) else some ((0 : Int64), q2.2))) (fun re11 => some re11) ue11)))))
theorem e_Mo_share {Lx : Nat} (p0 : Int32) (p1 : Int32)  (g : M2) {b : (Int64 × M2)} (h : f_Mo_share p0 p1 g = some b) : Ev Lx 165 cd_165 0 [some (.ref 157), some (.int p0), some (.int p1)] [] g (some (.long b.1), b.2) := by
  unfold f_Mo_share at h
  refine ev_rn (n := 4) (i2 := 4) (L2 := [some (.ref 157), some (.int p0), some (.int p1)]) (st2 := [.long (4 : Int64), .long (0 : Int64), .long p1.toInt64]) (g2 := g) cdE_165 rfl ?_
  refine ev_call rfl cdE_16 rfl rfl rfl (e_Mo_in p1.toInt64 (0 : Int64) (4 : Int64)  g rfl) ?_
  by_cases hc1 : (f_Mo_in p1.toInt64 (0 : Int64) (4 : Int64) g) = 0
  · rw [if_pos hc1] at h
    refine ev_zft cdE_165 rfl (cn_t hc1) ?_
    refine ev_rn (n := 1) (i2 := 20) (L2 := [some (.ref 157), some (.int p0), some (.int p1)]) (st2 := [.long (-9223372036854775808 : Int64)]) (g2 := g) cdE_165 rfl ?_
    cases h
    exact ev_ret rfl rfl
  · rw [if_neg hc1] at h
    refine ev_zff rfl (cn_f hc1) ?_
    refine ev_rn (n := 1) (i2 := 7) (L2 := [some (.ref 157), some (.int p0), some (.int p1)]) (st2 := [.ref 157]) (g2 := g) cdE_165 rfl ?_
    obtain ⟨q2, hq2, h⟩ := Option.bind_eq_some_iff.mp h
    refine ev_call rfl cdE_118 rfl rfl rfl (e_Mo_canNow   g hq2) ?_
    by_cases hc3 : q2.1 = 0
    · rw [if_pos hc3] at h
      refine ev_zft cdE_165 rfl (cn_t hc3) ?_
      refine ev_rn (n := 1) (i2 := 20) (L2 := [some (.ref 157), some (.int p0), some (.int p1)]) (st2 := [.long (-9223372036854775808 : Int64)]) (g2 := q2.2) cdE_165 rfl ?_
      cases h
      exact ev_ret rfl rfl
    · rw [if_neg hc3] at h
      refine ev_zff rfl (cn_f hc3) ?_
      refine ev_rn (n := 8) (i2 := 17) (L2 := [some (.ref 157), some (.int p0), some (.int p1)]) (st2 := [.long ((q2.2.1 157 10) - (1 : Int32)).toInt64, .long (0 : Int64), .long p0.toInt64]) (g2 := q2.2) cdE_165 rfl ?_
      refine ev_call rfl cdE_16 rfl rfl rfl (e_Mo_in p0.toInt64 (0 : Int64) ((q2.2.1 157 10) - (1 : Int32)).toInt64  q2.2 rfl) ?_
      by_cases hc4 : (f_Mo_in p0.toInt64 (0 : Int64) ((q2.2.1 157 10) - (1 : Int32)).toInt64 q2.2) = 0
      · rw [if_pos hc4] at h
        refine ev_zff rfl (cn_f (fun q => q hc4)) ?_
        refine ev_rn (n := 1) (i2 := 20) (L2 := [some (.ref 157), some (.int p0), some (.int p1)]) (st2 := [.long (-9223372036854775808 : Int64)]) (g2 := q2.2) cdE_165 rfl ?_
        cases h
        exact ev_ret rfl rfl
      · rw [if_neg hc4] at h
        refine ev_zft cdE_165 rfl (cn_t hc4) ?_
        refine ev_rn (n := 2) (i2 := 23) (L2 := [some (.ref 157), some (.int p0), some (.int p1), some (.int (0 : Int32))]) (st2 := []) (g2 := q2.2) cdE_165 rfl ?_
        obtain ⟨ue11, he11, h⟩ := Option.bind_eq_some_iff.mp h
        cases ue11 with
        | inl e11 =>
          replace h := h
          have hX13 : Ev Lx 165 cd_165 54 [none, none, some (.int p1)] [] q2.2 (some (.long b.1), b.2) := by
            simp only [Sum.elim_inl] at h
            refine ev_rn (n := 2) (i2 := 56) (L2 := [none, none, some (.int p1)]) (st2 := [.int (4 : Int32), .int p1]) (g2 := q2.2) cdE_165 rfl ?_
            by_cases hc12 : p1 = (4 : Int32)
            · rw [if_pos hc12] at h
              refine ev_iff rfl (cn_f (fun q => q hc12)) ?_
              refine ev_rn (n := 2) (i2 := 60) (L2 := [none, none, some (.int p1)]) (st2 := [.long (1 : Int64)]) (g2 := q2.2) cdE_165 rfl ?_
              cases h
              exact ev_ret rfl rfl
            · rw [if_neg hc12] at h
              refine ev_ift cdE_165 rfl (cn_t hc12) ?_
              refine ev_rn (n := 1) (i2 := 60) (L2 := [none, none, some (.int p1)]) (st2 := [.long (0 : Int64)]) (g2 := q2.2) cdE_165 rfl ?_
              cases h
              exact ev_ret rfl rfl
          exact ev_wk (L := [some (.ref 157), some (.int p0), some (.int p1), some (.int (0 : Int32))]) (lp_ind (P := (fun (s : Int32) => Ev Lx 165 cd_165 23 [some (.ref 157), some (.int p0), some (.int p1), some (.int s)] [] q2.2 (some (.long b.1), b.2))) (fun s s2 hs hP => tb_Mo_share_23 p0 p1  s q2.2 (b := .inl s2) hs hP) (fun s hs => tb_Mo_share_23 p0 p1  s q2.2 (b := .inr (.inl e11)) hs hX13) _ _ he11) ⟨rfl, ⟨rfl, ⟨rfl, ⟨rfl, trivial⟩⟩⟩⟩
        | inr re11 =>
          simp only [Sum.elim_inr] at h
          cases h
          exact ev_wk (L := [some (.ref 157), some (.int p0), some (.int p1), some (.int (0 : Int32))]) (lp_ind (P := (fun (s : Int32) => Ev Lx 165 cd_165 23 [some (.ref 157), some (.int p0), some (.int p1), some (.int s)] [] q2.2 (some (.long b.1), b.2))) (fun s s2 hs hP => tb_Mo_share_23 p0 p1  s q2.2 (b := .inl s2) hs hP) (fun s hs => tb_Mo_share_23 p0 p1  s q2.2 (b := .inr (.inr b)) hs rfl) _ _ he11) ⟨rfl, ⟨rfl, ⟨rfl, ⟨rfl, trivial⟩⟩⟩⟩
def f_Da_room (p0 : Int32) (g : M2) : Option (Int64 × M2) := ((f_Da_refresh g).bind fun q1 => (if p0 = 0 then some ((q1.2 6 14), q1) else (if p0 = (1 : Int32) then some ((q1.2 6 15), q1) else some ((-9223372036854775808 : Int64), q1))))
theorem e_Da_room {Lx : Nat} (p0 : Int32)  (g : M2) {b : (Int64 × M2)} (h : f_Da_room p0 g = some b) : Ev Lx 166 cd_166 0 [some (.ref 0), some (.int p0)] [] g (some (.long b.1), b.2) := by
  unfold f_Da_room at h
  refine ev_rn (n := 1) (i2 := 1) (L2 := [some (.ref 0), some (.int p0)]) (st2 := [.ref 0]) (g2 := g) cdE_166 rfl ?_
  obtain ⟨q1, hq1, h⟩ := Option.bind_eq_some_iff.mp h
  refine ev_call rfl cdE_100 rfl rfl rfl (e_Da_refresh   g hq1) ?_
  refine ev_rn (n := 1) (i2 := 3) (L2 := [some (.ref 0), some (.int p0)]) (st2 := [.int p0]) (g2 := q1) cdE_166 rfl ?_
  by_cases hc2 : p0 = 0
  · rw [if_pos hc2] at h
    refine ev_zff rfl (cn_f (fun q => q hc2)) ?_
    refine ev_rn (n := 3) (i2 := 7) (L2 := [some (.ref 0), some (.int p0)]) (st2 := [.long (q1.2 6 14)]) (g2 := q1) cdE_166 rfl ?_
    cases h
    exact ev_ret rfl rfl
  · rw [if_neg hc2] at h
    refine ev_zft cdE_166 rfl (cn_t hc2) ?_
    refine ev_rn (n := 2) (i2 := 10) (L2 := [some (.ref 0), some (.int p0)]) (st2 := [.int (1 : Int32), .int p0]) (g2 := q1) cdE_166 rfl ?_
    by_cases hc3 : p0 = (1 : Int32)
    · rw [if_pos hc3] at h
      refine ev_iff rfl (cn_f (fun q => q hc3)) ?_
      refine ev_rn (n := 4) (i2 := 16) (L2 := [some (.ref 0), some (.int p0)]) (st2 := [.long (q1.2 6 15)]) (g2 := q1) cdE_166 rfl ?_
      cases h
      exact ev_ret rfl rfl
    · rw [if_neg hc3] at h
      refine ev_ift cdE_166 rfl (cn_t hc3) ?_
      refine ev_rn (n := 1) (i2 := 16) (L2 := [some (.ref 0), some (.int p0)]) (st2 := [.long (-9223372036854775808 : Int64)]) (g2 := q1) cdE_166 rfl ?_
      cases h
      exact ev_ret rfl rfl
def f_Mo_room (p0 : Int32) (g : M2) : Option (Int64 × M2) := (if (f_Mo_in p0.toInt64 (0 : Int64) (1 : Int64) g) = 0 then some ((-9223372036854775808 : Int64), g) else ((f_Mo_canNow g).bind fun q2 => ((f_Mo_laysGram (q2.2.1 157 14) q2.2).bind fun q3 => ((f_Mo_laysDeterminants (0 : Int32) (q3.1 157 14) q3).bind fun q4 => (if p0 = 0 then ((f_Mo_part (((25 : Int32) + ((1 : Int32) <<< ((q4.1 157 14) &&& 31))) - (1 : Int32)) (0 : Int32) q4).bind fun q7 => some (q7, q4)) else ((f_Mo_part (((25 : Int32) + ((1 : Int32) <<< ((q4.1 157 14) &&& 31))) - (1 : Int32)) (3 : Int32) q4).bind fun q6 => some ((-q6), q4)))))))
theorem e_Mo_room {Lx : Nat} (p0 : Int32)  (g : M2) {b : (Int64 × M2)} (h : f_Mo_room p0 g = some b) : Ev Lx 167 cd_167 0 [some (.ref 157), some (.int p0)] [] g (some (.long b.1), b.2) := by
  unfold f_Mo_room at h
  refine ev_rn (n := 4) (i2 := 4) (L2 := [some (.ref 157), some (.int p0)]) (st2 := [.long (1 : Int64), .long (0 : Int64), .long p0.toInt64]) (g2 := g) cdE_167 rfl ?_
  refine ev_call rfl cdE_16 rfl rfl rfl (e_Mo_in p0.toInt64 (0 : Int64) (1 : Int64)  g rfl) ?_
  by_cases hc1 : (f_Mo_in p0.toInt64 (0 : Int64) (1 : Int64) g) = 0
  · rw [if_pos hc1] at h
    refine ev_zff rfl (cn_f (fun q => q hc1)) ?_
    refine ev_rn (n := 1) (i2 := 7) (L2 := [some (.ref 157), some (.int p0)]) (st2 := [.long (-9223372036854775808 : Int64)]) (g2 := g) cdE_167 rfl ?_
    cases h
    exact ev_ret rfl rfl
  · rw [if_neg hc1] at h
    refine ev_zft cdE_167 rfl (cn_t hc1) ?_
    refine ev_rn (n := 1) (i2 := 9) (L2 := [some (.ref 157), some (.int p0)]) (st2 := [.ref 157]) (g2 := g) cdE_167 rfl ?_
    obtain ⟨q2, hq2, h⟩ := Option.bind_eq_some_iff.mp h
    refine ev_call rfl cdE_118 rfl rfl rfl (e_Mo_canNow   g hq2) ?_
    refine ev_rn (n := 4) (i2 := 14) (L2 := [some (.ref 157), some (.int p0)]) (st2 := [.int (q2.2.1 157 14), .ref 157]) (g2 := q2.2) cdE_167 rfl ?_
    obtain ⟨q3, hq3, h⟩ := Option.bind_eq_some_iff.mp h
    refine ev_call rfl cdE_107 rfl rfl rfl (e_Mo_laysGram (q2.2.1 157 14)  q2.2 hq3) ?_
    refine ev_rn (n := 4) (i2 := 19) (L2 := [some (.ref 157), some (.int p0)]) (st2 := [.int (q3.1 157 14), .int (0 : Int32), .ref 157]) (g2 := q3) cdE_167 rfl ?_
    obtain ⟨q4, hq4, h⟩ := Option.bind_eq_some_iff.mp h
    refine ev_call rfl cdE_109 rfl rfl rfl (e_Mo_laysDeterminants (0 : Int32) (q3.1 157 14)  q3 hq4) ?_
    refine ev_rn (n := 10) (i2 := 30) (L2 := [some (.ref 157), some (.int p0), some (.int (((25 : Int32) + ((1 : Int32) <<< ((q4.1 157 14) &&& 31))) - (1 : Int32)))]) (st2 := [.int p0]) (g2 := q4) cdE_167 rfl ?_
    by_cases hc5 : p0 = 0
    · rw [if_pos hc5] at h
      refine ev_zff rfl (cn_f (fun q => q hc5)) ?_
      refine ev_rn (n := 3) (i2 := 34) (L2 := [some (.ref 157), some (.int p0), some (.int (((25 : Int32) + ((1 : Int32) <<< ((q4.1 157 14) &&& 31))) - (1 : Int32)))]) (st2 := [.int (0 : Int32), .int (((25 : Int32) + ((1 : Int32) <<< ((q4.1 157 14) &&& 31))) - (1 : Int32)), .ref 157]) (g2 := q4) cdE_167 rfl ?_
      obtain ⟨q7, hq7, h⟩ := Option.bind_eq_some_iff.mp h
      refine ev_call rfl cdE_110 rfl rfl rfl (e_Mo_part (((25 : Int32) + ((1 : Int32) <<< ((q4.1 157 14) &&& 31))) - (1 : Int32)) (0 : Int32)  q4 hq7) ?_
      refine ev_rn (n := 1) (i2 := 41) (L2 := [some (.ref 157), some (.int p0), some (.int (((25 : Int32) + ((1 : Int32) <<< ((q4.1 157 14) &&& 31))) - (1 : Int32)))]) (st2 := [.long q7]) (g2 := q4) cdE_167 rfl ?_
      cases h
      exact ev_ret rfl rfl
    · rw [if_neg hc5] at h
      refine ev_zft cdE_167 rfl (cn_t hc5) ?_
      refine ev_rn (n := 3) (i2 := 39) (L2 := [some (.ref 157), some (.int p0), some (.int (((25 : Int32) + ((1 : Int32) <<< ((q4.1 157 14) &&& 31))) - (1 : Int32)))]) (st2 := [.int (3 : Int32), .int (((25 : Int32) + ((1 : Int32) <<< ((q4.1 157 14) &&& 31))) - (1 : Int32)), .ref 157]) (g2 := q4) cdE_167 rfl ?_
      obtain ⟨q6, hq6, h⟩ := Option.bind_eq_some_iff.mp h
      refine ev_call rfl cdE_110 rfl rfl rfl (e_Mo_part (((25 : Int32) + ((1 : Int32) <<< ((q4.1 157 14) &&& 31))) - (1 : Int32)) (3 : Int32)  q4 hq6) ?_
      refine ev_rn (n := 1) (i2 := 41) (L2 := [some (.ref 157), some (.int p0), some (.int (((25 : Int32) + ((1 : Int32) <<< ((q4.1 157 14) &&& 31))) - (1 : Int32)))]) (st2 := [.long (-q6)]) (g2 := q4) cdE_167 rfl ?_
      cases h
      exact ev_ret rfl rfl
def f_Da_likeness (p0 : Int32) (p1 : Int32) (p2 : Int32) (g : M2) : Option (Int32 × M2) := (if (f_Da_isDirection p0 g) = 0 then some ((-1000 : Int32), g) else (if (f_Da_isDirection p1 g) = 0 then some ((-1000 : Int32), g) else (if (f_Da_isAmong p2 (2 : Int32) g) = 0 then some ((-1000 : Int32), g) else ((f_Pl_meet 7 p0 p1 155 g).bind fun q4 => (if p2 = 0 then some ((f_Nu_powerX 155 q4).toInt32, q4) else some ((f_Nu_powerY 155 q4).toInt32, q4))))))
theorem e_Da_likeness {Lx : Nat} (p0 : Int32) (p1 : Int32) (p2 : Int32)  (g : M2) {b : (Int32 × M2)} (h : f_Da_likeness p0 p1 p2 g = some b) : Ev Lx 168 cd_168 0 [some (.ref 0), some (.int p0), some (.int p1), some (.int p2)] [] g (some (.int b.1), b.2) := by
  unfold f_Da_likeness at h
  refine ev_rn (n := 1) (i2 := 1) (L2 := [some (.ref 0), some (.int p0), some (.int p1), some (.int p2)]) (st2 := [.int p0]) (g2 := g) cdE_168 rfl ?_
  refine ev_call rfl cdE_71 rfl rfl rfl (e_Da_isDirection p0  g rfl) ?_
  by_cases hc1 : (f_Da_isDirection p0 g) = 0
  · rw [if_pos hc1] at h
    refine ev_zft cdE_168 rfl (cn_t hc1) ?_
    refine ev_rn (n := 1) (i2 := 11) (L2 := [some (.ref 0), some (.int p0), some (.int p1), some (.int p2)]) (st2 := [.int (-1000 : Int32)]) (g2 := g) cdE_168 rfl ?_
    cases h
    exact ev_ret rfl rfl
  · rw [if_neg hc1] at h
    refine ev_zff rfl (cn_f hc1) ?_
    refine ev_rn (n := 1) (i2 := 4) (L2 := [some (.ref 0), some (.int p0), some (.int p1), some (.int p2)]) (st2 := [.int p1]) (g2 := g) cdE_168 rfl ?_
    refine ev_call rfl cdE_71 rfl rfl rfl (e_Da_isDirection p1  g rfl) ?_
    by_cases hc2 : (f_Da_isDirection p1 g) = 0
    · rw [if_pos hc2] at h
      refine ev_zft cdE_168 rfl (cn_t hc2) ?_
      refine ev_rn (n := 1) (i2 := 11) (L2 := [some (.ref 0), some (.int p0), some (.int p1), some (.int p2)]) (st2 := [.int (-1000 : Int32)]) (g2 := g) cdE_168 rfl ?_
      cases h
      exact ev_ret rfl rfl
    · rw [if_neg hc2] at h
      refine ev_zff rfl (cn_f hc2) ?_
      refine ev_rn (n := 2) (i2 := 8) (L2 := [some (.ref 0), some (.int p0), some (.int p1), some (.int p2)]) (st2 := [.int (2 : Int32), .int p2]) (g2 := g) cdE_168 rfl ?_
      refine ev_call rfl cdE_65 rfl rfl rfl (e_Da_isAmong p2 (2 : Int32)  g rfl) ?_
      by_cases hc3 : (f_Da_isAmong p2 (2 : Int32) g) = 0
      · rw [if_pos hc3] at h
        refine ev_zff rfl (cn_f (fun q => q hc3)) ?_
        refine ev_rn (n := 1) (i2 := 11) (L2 := [some (.ref 0), some (.int p0), some (.int p1), some (.int p2)]) (st2 := [.int (-1000 : Int32)]) (g2 := g) cdE_168 rfl ?_
        cases h
        exact ev_ret rfl rfl
      · rw [if_neg hc3] at h
        refine ev_zft cdE_168 rfl (cn_t hc3) ?_
        refine ev_rn (n := 7) (i2 := 19) (L2 := [some (.ref 0), some (.int p0), some (.int p1), some (.int p2)]) (st2 := [.ref 155, .int p1, .int p0, .ref 7]) (g2 := g) cdE_168 rfl ?_
        obtain ⟨q4, hq4, h⟩ := Option.bind_eq_some_iff.mp h
        refine ev_call rfl cdE_78 rfl rfl rfl (e_Pl_meet 7 p0 p1 155 (by decide) (num_lit 155 rfl) g hq4) ?_
        refine ev_rn (n := 1) (i2 := 21) (L2 := [some (.ref 0), some (.int p0), some (.int p1), some (.int p2)]) (st2 := [.int p2]) (g2 := q4) cdE_168 rfl ?_
        by_cases hc5 : p2 = 0
        · rw [if_pos hc5] at h
          refine ev_zff rfl (cn_f (fun q => q hc5)) ?_
          refine ev_rn (n := 2) (i2 := 24) (L2 := [some (.ref 0), some (.int p0), some (.int p1), some (.int p2)]) (st2 := [.ref 155]) (g2 := q4) cdE_168 rfl ?_
          refine ev_call rfl cdE_97 rfl rfl rfl (e_Nu_powerX 155 (num_lit 155 rfl) q4 rfl) ?_
          refine ev_rn (n := 2) (i2 := 30) (L2 := [some (.ref 0), some (.int p0), some (.int p1), some (.int p2)]) (st2 := [.int (f_Nu_powerX 155 q4).toInt32]) (g2 := q4) cdE_168 rfl ?_
          cases h
          exact ev_ret rfl rfl
        · rw [if_neg hc5] at h
          refine ev_zft cdE_168 rfl (cn_t hc5) ?_
          refine ev_rn (n := 2) (i2 := 28) (L2 := [some (.ref 0), some (.int p0), some (.int p1), some (.int p2)]) (st2 := [.ref 155]) (g2 := q4) cdE_168 rfl ?_
          refine ev_call rfl cdE_98 rfl rfl rfl (e_Nu_powerY 155 (num_lit 155 rfl) q4 rfl) ?_
          refine ev_rn (n := 1) (i2 := 30) (L2 := [some (.ref 0), some (.int p0), some (.int p1), some (.int p2)]) (st2 := [.int (f_Nu_powerY 155 q4).toInt32]) (g2 := q4) cdE_168 rfl ?_
          cases h
          exact ev_ret rfl rfl
def b_Mo_laysLikeness_5 (v1 : Int32) (v2 : Int32) (v3 : Int32) (g : M2) : Option ((Int32 × M2) ⊕ M2) := (if (g.1 160 1) ≤ v3 then some (.inr g) else ((f_Mo_isBroken v3 g).bind fun q3 => (if q3 = 0 then (if inb ((2 : Int32) + v3) 19 then ((f_Mo_addsPower (87 : Int32) ((v1 - v2) * (g.1 160 ((2 : Int32) + v3).toNatClampNeg)) (1 : Int64) g).bind fun q6 => some (.inl ((v3 + (1 : Int32)), q6))) else none) else some (.inl ((v3 + (1 : Int32)), g)))))
theorem tb_Mo_laysLikeness_5 {Lx : Nat} (v1 : Int32) (v2 : Int32)  (v3 : Int32) (g : M2) {b : (Int32 × M2) ⊕ M2} {o : Option Value × M2} (h : b_Mo_laysLikeness_5 v1 v2 v3 g = some b) (hb : Sum.elim (fun s => Ev Lx 169 cd_169 5 [some (.ref 157), some (.int v1), some (.int v2), some (.int s.1)] [] s.2 o) (fun e => Ev Lx 169 cd_169 31 [some (.ref 157)] [] e o) b) : Ev Lx 169 cd_169 5 [some (.ref 157), some (.int v1), some (.int v2), some (.int v3)] [] g o := by
  unfold b_Mo_laysLikeness_5 at h
  refine ev_rn (n := 4) (i2 := 9) (L2 := [some (.ref 157), some (.int v1), some (.int v2), some (.int v3)]) (st2 := [.int (1 : Int32), .ref 160, .int v3]) (g2 := g) cdE_169 rfl ?_
  refine ev_iaload (v := .int (g.1 160 1)) rfl (kd_of (show S0[160]? = some (100, 19, List.replicate 19 none) from rfl)) (by decide) ⟨by decide, by decide⟩ rfl ?_
  by_cases hc2 : (g.1 160 1) ≤ v3
  · rw [if_pos hc2] at h
    refine ev_ift cdE_169 rfl (cn_t hc2) ?_
    cases h
    exact ev_wk (L := [some (.ref 157)]) hb ⟨rfl, trivial⟩
  · rw [if_neg hc2] at h
    refine ev_iff rfl (cn_f hc2) ?_
    refine ev_rn (n := 2) (i2 := 13) (L2 := [some (.ref 157), some (.int v1), some (.int v2), some (.int v3)]) (st2 := [.int v3, .ref 157]) (g2 := g) cdE_169 rfl ?_
    obtain ⟨q3, hq3, h⟩ := Option.bind_eq_some_iff.mp h
    refine ev_call rfl cdE_61 rfl rfl rfl (e_Mo_isBroken v3  g hq3) ?_
    by_cases hc4 : q3 = 0
    · rw [if_pos hc4] at h
      refine ev_zff rfl (cn_f (fun q => q hc4)) ?_
      refine ev_rn (n := 10) (i2 := 25) (L2 := [some (.ref 157), some (.int v1), some (.int v2), some (.int v3)]) (st2 := [.int ((2 : Int32) + v3), .ref 160, .int (v1 - v2), .int (87 : Int32), .ref 157]) (g2 := g) cdE_169 rfl ?_
      by_cases hi5 : inb ((2 : Int32) + v3) 19
      · rw [if_pos hi5] at h
        refine ev_iaload (v := .int (g.1 160 ((2 : Int32) + v3).toNatClampNeg)) rfl (kd_of (show S0[160]? = some (100, 19, List.replicate 19 none) from rfl)) (by decide) hi5 rfl ?_
        refine ev_rn (n := 2) (i2 := 28) (L2 := [some (.ref 157), some (.int v1), some (.int v2), some (.int v3)]) (st2 := [.long (1 : Int64), .int ((v1 - v2) * (g.1 160 ((2 : Int32) + v3).toNatClampNeg)), .int (87 : Int32), .ref 157]) (g2 := g) cdE_169 rfl ?_
        obtain ⟨q6, hq6, h⟩ := Option.bind_eq_some_iff.mp h
        refine ev_call rfl cdE_106 rfl rfl rfl (e_Mo_addsPower (87 : Int32) ((v1 - v2) * (g.1 160 ((2 : Int32) + v3).toNatClampNeg)) (1 : Int64)  g hq6) ?_
        refine ev_rn (n := 2) (i2 := 5) (L2 := [some (.ref 157), some (.int v1), some (.int v2), some (.int (v3 + (1 : Int32)))]) (st2 := []) (g2 := q6) cdE_169 rfl ?_
        cases h
        exact ev_wk (L := [some (.ref 157), some (.int v1), some (.int v2), some (.int (v3 + (1 : Int32)))]) hb ⟨rfl, ⟨rfl, ⟨rfl, ⟨rfl, trivial⟩⟩⟩⟩
      · rw [if_neg hi5] at h
        cases h
    · rw [if_neg hc4] at h
      refine ev_zft cdE_169 rfl (cn_t hc4) ?_
      refine ev_rn (n := 2) (i2 := 5) (L2 := [some (.ref 157), some (.int v1), some (.int v2), some (.int (v3 + (1 : Int32)))]) (st2 := []) (g2 := g) cdE_169 rfl ?_
      cases h
      exact ev_wk (L := [some (.ref 157), some (.int v1), some (.int v2), some (.int (v3 + (1 : Int32)))]) hb ⟨rfl, ⟨rfl, ⟨rfl, ⟨rfl, trivial⟩⟩⟩⟩
def f_Mo_laysLikeness (p0 : Int32) (p1 : Int32) (g : M2) : Option (M2) := ((f_Mo_clears (87 : Int32) g).bind fun q1 => ((lp (fun s => b_Mo_laysLikeness_5 p0 p1 s.1 s.2) 5000 ((0 : Int32), q1)).bind fun e7 => ((f_Mo_laysPower (87 : Int32) e7).bind fun q8 => some q8)))
theorem e_Mo_laysLikeness {Lx : Nat} (p0 : Int32) (p1 : Int32)  (g : M2) {b : M2} (h : f_Mo_laysLikeness p0 p1 g = some b) : Ev Lx 169 cd_169 0 [some (.ref 157), some (.int p0), some (.int p1)] [] g (none, b) := by
  unfold f_Mo_laysLikeness at h
  refine ev_rn (n := 2) (i2 := 2) (L2 := [some (.ref 157), some (.int p0), some (.int p1)]) (st2 := [.int (87 : Int32), .ref 157]) (g2 := g) cdE_169 rfl ?_
  obtain ⟨q1, hq1, h⟩ := Option.bind_eq_some_iff.mp h
  refine ev_call rfl cdE_104 rfl rfl rfl (e_Mo_clears (87 : Int32)  g hq1) ?_
  refine ev_rn (n := 2) (i2 := 5) (L2 := [some (.ref 157), some (.int p0), some (.int p1), some (.int (0 : Int32))]) (st2 := []) (g2 := q1) cdE_169 rfl ?_
  obtain ⟨e7, he7, h⟩ := Option.bind_eq_some_iff.mp h
  have hX9 : Ev Lx 169 cd_169 31 [some (.ref 157)] [] e7 (none, b) := by
    refine ev_rn (n := 2) (i2 := 33) (L2 := [some (.ref 157)]) (st2 := [.int (87 : Int32), .ref 157]) (g2 := e7) cdE_169 rfl ?_
    obtain ⟨q8, hq8, h⟩ := Option.bind_eq_some_iff.mp h
    refine ev_call rfl cdE_137 rfl rfl rfl (e_Mo_laysPower (87 : Int32)  e7 hq8) ?_
    cases h
    exact ev_ret rfl rfl
  exact ev_wk (L := [some (.ref 157), some (.int p0), some (.int p1), some (.int (0 : Int32))]) (lp_ind (P := (fun (s : (Int32 × M2)) => Ev Lx 169 cd_169 5 [some (.ref 157), some (.int p0), some (.int p1), some (.int s.1)] [] s.2 (none, b))) (fun s s2 hs hP => tb_Mo_laysLikeness_5 p0 p1  s.1 s.2 (b := .inl s2) hs hP) (fun s hs => tb_Mo_laysLikeness_5 p0 p1  s.1 s.2 (b := .inr e7) hs hX9) _ _ he7) ⟨rfl, ⟨rfl, ⟨rfl, ⟨rfl, trivial⟩⟩⟩⟩
def f_Mo_likeness (p0 : Int32) (p1 : Int32) (p2 : Int32) (g : M2) : Option (Int32 × M2) := (if (f_Mo_isDirection p0 g) = 0 then some ((-1000 : Int32), g) else (if (f_Mo_isDirection p1 g) = 0 then some ((-1000 : Int32), g) else (if (f_Mo_in p2.toInt64 (0 : Int64) (1 : Int64) g) = 0 then some ((-1000 : Int32), g) else ((f_Mo_laysLikeness p0 p1 g).bind fun q4 => (if p2 = 0 then some ((q4.2 157 3).toInt32, q4) else some ((q4.2 157 4).toInt32, q4))))))
theorem e_Mo_likeness {Lx : Nat} (p0 : Int32) (p1 : Int32) (p2 : Int32)  (g : M2) {b : (Int32 × M2)} (h : f_Mo_likeness p0 p1 p2 g = some b) : Ev Lx 170 cd_170 0 [some (.ref 157), some (.int p0), some (.int p1), some (.int p2)] [] g (some (.int b.1), b.2) := by
  unfold f_Mo_likeness at h
  refine ev_rn (n := 1) (i2 := 1) (L2 := [some (.ref 157), some (.int p0), some (.int p1), some (.int p2)]) (st2 := [.int p0]) (g2 := g) cdE_170 rfl ?_
  refine ev_call rfl cdE_73 rfl rfl rfl (e_Mo_isDirection p0  g rfl) ?_
  by_cases hc1 : (f_Mo_isDirection p0 g) = 0
  · rw [if_pos hc1] at h
    refine ev_zft cdE_170 rfl (cn_t hc1) ?_
    refine ev_rn (n := 1) (i2 := 13) (L2 := [some (.ref 157), some (.int p0), some (.int p1), some (.int p2)]) (st2 := [.int (-1000 : Int32)]) (g2 := g) cdE_170 rfl ?_
    cases h
    exact ev_ret rfl rfl
  · rw [if_neg hc1] at h
    refine ev_zff rfl (cn_f hc1) ?_
    refine ev_rn (n := 1) (i2 := 4) (L2 := [some (.ref 157), some (.int p0), some (.int p1), some (.int p2)]) (st2 := [.int p1]) (g2 := g) cdE_170 rfl ?_
    refine ev_call rfl cdE_73 rfl rfl rfl (e_Mo_isDirection p1  g rfl) ?_
    by_cases hc2 : (f_Mo_isDirection p1 g) = 0
    · rw [if_pos hc2] at h
      refine ev_zft cdE_170 rfl (cn_t hc2) ?_
      refine ev_rn (n := 1) (i2 := 13) (L2 := [some (.ref 157), some (.int p0), some (.int p1), some (.int p2)]) (st2 := [.int (-1000 : Int32)]) (g2 := g) cdE_170 rfl ?_
      cases h
      exact ev_ret rfl rfl
    · rw [if_neg hc2] at h
      refine ev_zff rfl (cn_f hc2) ?_
      refine ev_rn (n := 4) (i2 := 10) (L2 := [some (.ref 157), some (.int p0), some (.int p1), some (.int p2)]) (st2 := [.long (1 : Int64), .long (0 : Int64), .long p2.toInt64]) (g2 := g) cdE_170 rfl ?_
      refine ev_call rfl cdE_16 rfl rfl rfl (e_Mo_in p2.toInt64 (0 : Int64) (1 : Int64)  g rfl) ?_
      by_cases hc3 : (f_Mo_in p2.toInt64 (0 : Int64) (1 : Int64) g) = 0
      · rw [if_pos hc3] at h
        refine ev_zff rfl (cn_f (fun q => q hc3)) ?_
        refine ev_rn (n := 1) (i2 := 13) (L2 := [some (.ref 157), some (.int p0), some (.int p1), some (.int p2)]) (st2 := [.int (-1000 : Int32)]) (g2 := g) cdE_170 rfl ?_
        cases h
        exact ev_ret rfl rfl
      · rw [if_neg hc3] at h
        refine ev_zft cdE_170 rfl (cn_t hc3) ?_
        refine ev_rn (n := 3) (i2 := 17) (L2 := [some (.ref 157), some (.int p0), some (.int p1), some (.int p2)]) (st2 := [.int p1, .int p0, .ref 157]) (g2 := g) cdE_170 rfl ?_
        obtain ⟨q4, hq4, h⟩ := Option.bind_eq_some_iff.mp h
        refine ev_call rfl cdE_169 rfl rfl rfl (e_Mo_laysLikeness p0 p1  g hq4) ?_
        refine ev_rn (n := 1) (i2 := 19) (L2 := [some (.ref 157), some (.int p0), some (.int p1), some (.int p2)]) (st2 := [.int p2]) (g2 := q4) cdE_170 rfl ?_
        by_cases hc5 : p2 = 0
        · rw [if_pos hc5] at h
          refine ev_zff rfl (cn_f (fun q => q hc5)) ?_
          refine ev_rn (n := 4) (i2 := 26) (L2 := [some (.ref 157), some (.int p0), some (.int p1), some (.int p2)]) (st2 := [.int (q4.2 157 3).toInt32]) (g2 := q4) cdE_170 rfl ?_
          cases h
          exact ev_ret rfl rfl
        · rw [if_neg hc5] at h
          refine ev_zft cdE_170 rfl (cn_t hc5) ?_
          refine ev_rn (n := 3) (i2 := 26) (L2 := [some (.ref 157), some (.int p0), some (.int p1), some (.int p2)]) (st2 := [.int (q4.2 157 4).toInt32]) (g2 := q4) cdE_170 rfl ?_
          cases h
          exact ev_ret rfl rfl
def j_Pl_areTwins_20 (v0 : Nat) (v1 : Int32) (v2 : Int32) (v3 : Int32) (v4 : Int32) (g : M2) : Option ((Int32 × Int32) ⊕ (Unit ⊕ Int32)) := (if inb v4 5 then (if (((v1 - v2) * ((g.1 (v0 + 1) v4.toNatClampNeg) - v3)) - ((v1 - v2) * ((g.1 (v0 + 1) v4.toNatClampNeg) - v3)) / (12 : Int32) * (12 : Int32)) = 0 then some (.inl (v3, (v4 + (1 : Int32)))) else some (.inr (.inr (0 : Int32)))) else none)
theorem tj_Pl_areTwins_20 {Lx : Nat}  (v0 : Nat) (v1 : Int32) (v2 : Int32) (v3 : Int32) (v4 : Int32) (hv0 : IsPlan v0) (g : M2) {b : (Int32 × Int32) ⊕ (Unit ⊕ Int32)} {o : Option Value × M2} (h : j_Pl_areTwins_20 v0 v1 v2 v3 v4 g = some b) (hb : Sum.elim (fun s => Ev Lx 171 cd_171 4 [some (.ref v0), some (.int v1), some (.int v2), some (.int s.1), some (.int s.2)] [] g o) (Sum.elim (fun e => Ev Lx 171 cd_171 37 [] [] g o) (fun r => o = (some (.int r), g))) b) : Ev Lx 171 cd_171 20 [some (.ref v0), some (.int v1), some (.int v2), some (.int v3), some (.int v4)] [] g o := by
  unfold j_Pl_areTwins_20 at h
  refine ev_rn (n := 4) (i2 := 24) (L2 := [some (.ref v0), some (.int v1), some (.int v2), some (.int v3), some (.int v4)]) (st2 := [.ref v0, .int (v1 - v2)]) (g2 := g) cdE_171 rfl ?_
  refine ev_gf (v := .ref (v0 + 1)) rfl (pl_at hv0) (by decide) rfl ?_
  refine ev_rn (n := 1) (i2 := 26) (L2 := [some (.ref v0), some (.int v1), some (.int v2), some (.int v3), some (.int v4)]) (st2 := [.int v4, .ref (v0 + 1), .int (v1 - v2)]) (g2 := g) cdE_171 rfl ?_
  by_cases hi4 : inb v4 5
  · rw [if_pos hi4] at h
    refine ev_iaload (v := .int (g.1 (v0 + 1) v4.toNatClampNeg)) rfl (kd_of (pl_1 hv0)) (by decide) hi4 rfl ?_
    refine ev_rn (n := 4) (i2 := 31) (L2 := [some (.ref v0), some (.int v1), some (.int v2), some (.int v3), some (.int v4)]) (st2 := [.int (12 : Int32), .int ((v1 - v2) * ((g.1 (v0 + 1) v4.toNatClampNeg) - v3))]) (g2 := g) cdE_171 rfl ?_
    refine ev_irem rfl (by decide) ?_
    by_cases hc5 : (((v1 - v2) * ((g.1 (v0 + 1) v4.toNatClampNeg) - v3)) - ((v1 - v2) * ((g.1 (v0 + 1) v4.toNatClampNeg) - v3)) / (12 : Int32) * (12 : Int32)) = 0
    · rw [if_pos hc5] at h
      refine ev_zft cdE_171 rfl (cn_t hc5) ?_
      refine ev_rn (n := 2) (i2 := 4) (L2 := [some (.ref v0), some (.int v1), some (.int v2), some (.int v3), some (.int (v4 + (1 : Int32)))]) (st2 := []) (g2 := g) cdE_171 rfl ?_
      cases h
      exact ev_wk (L := [some (.ref v0), some (.int v1), some (.int v2), some (.int v3), some (.int (v4 + (1 : Int32)))]) hb ⟨rfl, ⟨rfl, ⟨rfl, ⟨rfl, ⟨rfl, trivial⟩⟩⟩⟩⟩
    · rw [if_neg hc5] at h
      refine ev_zff rfl (cn_f hc5) ?_
      refine ev_rn (n := 1) (i2 := 34) (L2 := [some (.ref v0), some (.int v1), some (.int v2), some (.int v3), some (.int v4)]) (st2 := [.int (0 : Int32)]) (g2 := g) cdE_171 rfl ?_
      cases h
      cases hb
      exact ev_ret rfl rt_0
  · rw [if_neg hi4] at h
    cases h
def b_Pl_areTwins_4 (v0 : Nat) (v1 : Int32) (v2 : Int32) (v3 : Int32) (v4 : Int32) (g : M2) : Option ((Int32 × Int32) ⊕ (Unit ⊕ Int32)) := (if (g.1 v0 2) ≤ v4 then some (.inr (.inl ())) else (if (f_Pl_works v0 v4 g) = 0 then some (.inl (v3, (v4 + (1 : Int32)))) else (if v3 = (-1 : Int32) then (if inb v4 5 then (j_Pl_areTwins_20 v0 v1 v2 (g.1 (v0 + 1) v4.toNatClampNeg) v4 g) else none) else (j_Pl_areTwins_20 v0 v1 v2 v3 v4 g))))
theorem tb_Pl_areTwins_4 {Lx : Nat} (v0 : Nat) (v1 : Int32) (v2 : Int32) (hv0 : IsPlan v0) (v3 : Int32) (v4 : Int32) (g : M2) {b : (Int32 × Int32) ⊕ (Unit ⊕ Int32)} {o : Option Value × M2} (h : b_Pl_areTwins_4 v0 v1 v2 v3 v4 g = some b) (hb : Sum.elim (fun s => Ev Lx 171 cd_171 4 [some (.ref v0), some (.int v1), some (.int v2), some (.int s.1), some (.int s.2)] [] g o) (Sum.elim (fun e => Ev Lx 171 cd_171 37 [] [] g o) (fun r => o = (some (.int r), g))) b) : Ev Lx 171 cd_171 4 [some (.ref v0), some (.int v1), some (.int v2), some (.int v3), some (.int v4)] [] g o := by
  unfold b_Pl_areTwins_4 at h
  refine ev_rn (n := 2) (i2 := 6) (L2 := [some (.ref v0), some (.int v1), some (.int v2), some (.int v3), some (.int v4)]) (st2 := [.ref v0, .int v4]) (g2 := g) cdE_171 rfl ?_
  refine ev_gf (v := .int (g.1 v0 2)) rfl (pl_at hv0) (by decide) rfl ?_
  by_cases hc1 : (g.1 v0 2) ≤ v4
  · rw [if_pos hc1] at h
    refine ev_ift cdE_171 rfl (cn_t hc1) ?_
    cases h
    exact ev_wk (L := []) hb trivial
  · rw [if_neg hc1] at h
    refine ev_iff rfl (cn_f hc1) ?_
    refine ev_rn (n := 2) (i2 := 10) (L2 := [some (.ref v0), some (.int v1), some (.int v2), some (.int v3), some (.int v4)]) (st2 := [.int v4, .ref v0]) (g2 := g) cdE_171 rfl ?_
    refine ev_call rfl cdE_67 (cokV rfl rfl (pl_at hv0) rfl) rfl rfl (e_Pl_works v0 v4 hv0 g rfl) ?_
    by_cases hc2 : (f_Pl_works v0 v4 g) = 0
    · rw [if_pos hc2] at h
      refine ev_zft cdE_171 rfl (cn_t hc2) ?_
      refine ev_rn (n := 2) (i2 := 4) (L2 := [some (.ref v0), some (.int v1), some (.int v2), some (.int v3), some (.int (v4 + (1 : Int32)))]) (st2 := []) (g2 := g) cdE_171 rfl ?_
      cases h
      exact ev_wk (L := [some (.ref v0), some (.int v1), some (.int v2), some (.int v3), some (.int (v4 + (1 : Int32)))]) hb ⟨rfl, ⟨rfl, ⟨rfl, ⟨rfl, ⟨rfl, trivial⟩⟩⟩⟩⟩
    · rw [if_neg hc2] at h
      refine ev_zff rfl (cn_f hc2) ?_
      refine ev_rn (n := 2) (i2 := 14) (L2 := [some (.ref v0), some (.int v1), some (.int v2), some (.int v3), some (.int v4)]) (st2 := [.int (-1 : Int32), .int v3]) (g2 := g) cdE_171 rfl ?_
      by_cases hc3 : v3 = (-1 : Int32)
      · rw [if_pos hc3] at h
        refine ev_iff rfl (cn_f (fun q => q hc3)) ?_
        refine ev_rn (n := 1) (i2 := 16) (L2 := [some (.ref v0), some (.int v1), some (.int v2), some (.int v3), some (.int v4)]) (st2 := [.ref v0]) (g2 := g) cdE_171 rfl ?_
        refine ev_gf (v := .ref (v0 + 1)) rfl (pl_at hv0) (by decide) rfl ?_
        refine ev_rn (n := 1) (i2 := 18) (L2 := [some (.ref v0), some (.int v1), some (.int v2), some (.int v3), some (.int v4)]) (st2 := [.int v4, .ref (v0 + 1)]) (g2 := g) cdE_171 rfl ?_
        by_cases hi6 : inb v4 5
        · rw [if_pos hi6] at h
          refine ev_iaload (v := .int (g.1 (v0 + 1) v4.toNatClampNeg)) rfl (kd_of (pl_1 hv0)) (by decide) hi6 rfl ?_
          refine ev_rn (n := 1) (i2 := 20) (L2 := [some (.ref v0), some (.int v1), some (.int v2), some (.int (g.1 (v0 + 1) v4.toNatClampNeg)), some (.int v4)]) (st2 := []) (g2 := g) cdE_171 rfl ?_
          exact ev_wk (L := [some (.ref v0), some (.int v1), some (.int v2), some (.int (g.1 (v0 + 1) v4.toNatClampNeg)), some (.int v4)]) (tj_Pl_areTwins_20  v0 v1 v2 (g.1 (v0 + 1) v4.toNatClampNeg) v4 hv0 g h hb) ⟨rfl, ⟨rfl, ⟨rfl, ⟨rfl, ⟨rfl, trivial⟩⟩⟩⟩⟩
        · rw [if_neg hi6] at h
          cases h
      · rw [if_neg hc3] at h
        refine ev_ift cdE_171 rfl (cn_t hc3) ?_
        exact ev_wk (L := [some (.ref v0), some (.int v1), some (.int v2), some (.int v3), some (.int v4)]) (tj_Pl_areTwins_20  v0 v1 v2 v3 v4 hv0 g h hb) ⟨rfl, ⟨rfl, ⟨rfl, ⟨rfl, ⟨rfl, trivial⟩⟩⟩⟩⟩
def f_Pl_areTwins (a0 : Nat) (p0 : Int32) (p1 : Int32) (g : M2) : Option (Int32) := ((lp (fun s => b_Pl_areTwins_4 a0 p0 p1 s.1 s.2 g) 5000 ((-1 : Int32), (0 : Int32))).bind fun ue7 => Sum.elim (fun e7 => some (1 : Int32)) (fun re7 => some re7) ue7)
theorem e_Pl_areTwins {Lx : Nat} (a0 : Nat) (p0 : Int32) (p1 : Int32) (ha0 : IsPlan a0) (g : M2) {b : Int32} (h : f_Pl_areTwins a0 p0 p1 g = some b) : Ev Lx 171 cd_171 0 [some (.ref a0), some (.int p0), some (.int p1)] [] g (some (.int b), g) := by
  unfold f_Pl_areTwins at h
  refine ev_rn (n := 4) (i2 := 4) (L2 := [some (.ref a0), some (.int p0), some (.int p1), some (.int (-1 : Int32)), some (.int (0 : Int32))]) (st2 := []) (g2 := g) cdE_171 rfl ?_
  obtain ⟨ue7, he7, h⟩ := Option.bind_eq_some_iff.mp h
  cases ue7 with
  | inl e7 =>
    replace h := h
    have hX8 : Ev Lx 171 cd_171 37 [] [] g (some (.int b), g) := by
      simp only [Sum.elim_inl] at h
      refine ev_rn (n := 1) (i2 := 38) (L2 := []) (st2 := [.int (1 : Int32)]) (g2 := g) cdE_171 rfl ?_
      cases h
      exact ev_ret rfl rt_1
    exact ev_wk (L := [some (.ref a0), some (.int p0), some (.int p1), some (.int (-1 : Int32)), some (.int (0 : Int32))]) (lp_ind (P := (fun (s : (Int32 × Int32)) => Ev Lx 171 cd_171 4 [some (.ref a0), some (.int p0), some (.int p1), some (.int s.1), some (.int s.2)] [] g (some (.int b), g))) (fun s s2 hs hP => tb_Pl_areTwins_4 a0 p0 p1 ha0 s.1 s.2 g (b := .inl s2) hs hP) (fun s hs => tb_Pl_areTwins_4 a0 p0 p1 ha0 s.1 s.2 g (b := .inr (.inl e7)) hs hX8) _ _ he7) ⟨rfl, ⟨rfl, ⟨rfl, ⟨rfl, ⟨rfl, trivial⟩⟩⟩⟩⟩
  | inr re7 =>
    simp only [Sum.elim_inr] at h
    cases h
    exact ev_wk (L := [some (.ref a0), some (.int p0), some (.int p1), some (.int (-1 : Int32)), some (.int (0 : Int32))]) (lp_ind (P := (fun (s : (Int32 × Int32)) => Ev Lx 171 cd_171 4 [some (.ref a0), some (.int p0), some (.int p1), some (.int s.1), some (.int s.2)] [] g (some (.int b), g))) (fun s s2 hs hP => tb_Pl_areTwins_4 a0 p0 p1 ha0 s.1 s.2 g (b := .inl s2) hs hP) (fun s hs => tb_Pl_areTwins_4 a0 p0 p1 ha0 s.1 s.2 g (b := .inr (.inr b)) hs rfl) _ _ he7) ⟨rfl, ⟨rfl, ⟨rfl, ⟨rfl, ⟨rfl, trivial⟩⟩⟩⟩⟩
def b_Pl_twinBits_4 (v0 : Nat) (v1 : Int32) (v2 : Int32) (v3 : Int32) (g : M2) : Option ((Int32 × Int32) ⊕ Int32) := (if (12 : Int32) ≤ v3 then some (.inr v2) else ((f_Pl_areTwins v0 v1 v3 g).bind fun q2 => (if q2 = 0 then some (.inl (v2, (v3 + (1 : Int32)))) else some (.inl ((v2 ||| ((1 : Int32) <<< (v3 &&& 31))), (v3 + (1 : Int32)))))))
theorem tb_Pl_twinBits_4 {Lx : Nat} (v0 : Nat) (v1 : Int32) (hv0 : IsPlan v0) (v2 : Int32) (v3 : Int32) (g : M2) {b : (Int32 × Int32) ⊕ Int32} {o : Option Value × M2} (h : b_Pl_twinBits_4 v0 v1 v2 v3 g = some b) (hb : Sum.elim (fun s => Ev Lx 172 cd_172 4 [some (.ref v0), some (.int v1), some (.int s.1), some (.int s.2)] [] g o) (fun e => Ev Lx 172 cd_172 20 [none, none, some (.int e)] [] g o) b) : Ev Lx 172 cd_172 4 [some (.ref v0), some (.int v1), some (.int v2), some (.int v3)] [] g o := by
  unfold b_Pl_twinBits_4 at h
  refine ev_rn (n := 2) (i2 := 6) (L2 := [some (.ref v0), some (.int v1), some (.int v2), some (.int v3)]) (st2 := [.int (12 : Int32), .int v3]) (g2 := g) cdE_172 rfl ?_
  by_cases hc1 : (12 : Int32) ≤ v3
  · rw [if_pos hc1] at h
    refine ev_ift cdE_172 rfl (cn_t hc1) ?_
    cases h
    exact ev_wk (L := [none, none, some (.int v2)]) hb ⟨rfl, trivial⟩
  · rw [if_neg hc1] at h
    refine ev_iff rfl (cn_f hc1) ?_
    refine ev_rn (n := 3) (i2 := 10) (L2 := [some (.ref v0), some (.int v1), some (.int v2), some (.int v3)]) (st2 := [.int v3, .int v1, .ref v0]) (g2 := g) cdE_172 rfl ?_
    obtain ⟨q2, hq2, h⟩ := Option.bind_eq_some_iff.mp h
    refine ev_call rfl cdE_171 (cokV rfl rfl (pl_at hv0) rfl) rfl rfl (e_Pl_areTwins v0 v1 v3 hv0 g hq2) ?_
    by_cases hc3 : q2 = 0
    · rw [if_pos hc3] at h
      refine ev_zft cdE_172 rfl (cn_t hc3) ?_
      refine ev_rn (n := 2) (i2 := 4) (L2 := [some (.ref v0), some (.int v1), some (.int v2), some (.int (v3 + (1 : Int32)))]) (st2 := []) (g2 := g) cdE_172 rfl ?_
      cases h
      exact ev_wk (L := [some (.ref v0), some (.int v1), some (.int v2), some (.int (v3 + (1 : Int32)))]) hb ⟨rfl, ⟨rfl, ⟨rfl, ⟨rfl, trivial⟩⟩⟩⟩
    · rw [if_neg hc3] at h
      refine ev_zff rfl (cn_f hc3) ?_
      refine ev_rn (n := 7) (i2 := 19) (L2 := [some (.ref v0), some (.int v1), some (.int (v2 ||| ((1 : Int32) <<< (v3 &&& 31)))), some (.int (v3 + (1 : Int32)))]) (st2 := []) (g2 := g) cdE_172 rfl ?_
      refine ev_rn (n := 1) (i2 := 4) (L2 := [some (.ref v0), some (.int v1), some (.int (v2 ||| ((1 : Int32) <<< (v3 &&& 31)))), some (.int (v3 + (1 : Int32)))]) (st2 := []) (g2 := g) cdE_172 rfl ?_
      cases h
      exact ev_wk (L := [some (.ref v0), some (.int v1), some (.int (v2 ||| ((1 : Int32) <<< (v3 &&& 31)))), some (.int (v3 + (1 : Int32)))]) hb ⟨rfl, ⟨rfl, ⟨rfl, ⟨rfl, trivial⟩⟩⟩⟩
def f_Pl_twinBits (a0 : Nat) (p0 : Int32) (g : M2) : Option (Int32) := ((lp (fun s => b_Pl_twinBits_4 a0 p0 s.1 s.2 g) 5000 ((0 : Int32), (0 : Int32))).bind fun e4 => some e4)
theorem e_Pl_twinBits {Lx : Nat} (a0 : Nat) (p0 : Int32) (ha0 : IsPlan a0) (g : M2) {b : Int32} (h : f_Pl_twinBits a0 p0 g = some b) : Ev Lx 172 cd_172 0 [some (.ref a0), some (.int p0)] [] g (some (.int b), g) := by
  unfold f_Pl_twinBits at h
  refine ev_rn (n := 4) (i2 := 4) (L2 := [some (.ref a0), some (.int p0), some (.int (0 : Int32)), some (.int (0 : Int32))]) (st2 := []) (g2 := g) cdE_172 rfl ?_
  obtain ⟨e4, he4, h⟩ := Option.bind_eq_some_iff.mp h
  have hX5 : Ev Lx 172 cd_172 20 [none, none, some (.int e4)] [] g (some (.int b), g) := by
    refine ev_rn (n := 1) (i2 := 21) (L2 := [none, none, some (.int e4)]) (st2 := [.int e4]) (g2 := g) cdE_172 rfl ?_
    cases h
    exact ev_ret rfl rfl
  exact ev_wk (L := [some (.ref a0), some (.int p0), some (.int (0 : Int32)), some (.int (0 : Int32))]) (lp_ind (P := (fun (s : (Int32 × Int32)) => Ev Lx 172 cd_172 4 [some (.ref a0), some (.int p0), some (.int s.1), some (.int s.2)] [] g (some (.int b), g))) (fun s s2 hs hP => tb_Pl_twinBits_4 a0 p0 ha0 s.1 s.2 g (b := .inl s2) hs hP) (fun s hs => tb_Pl_twinBits_4 a0 p0 ha0 s.1 s.2 g (b := .inr e4) hs hX5) _ _ he4) ⟨rfl, ⟨rfl, ⟨rfl, ⟨rfl, trivial⟩⟩⟩⟩
def f_Gr_clear  (g : M2) : Option (M2) := (bd (uI g 152 0 (-1 : Int32)) fun g1 => some g1)
theorem e_Gr_clear {Lx : Nat}   (g : M2) {b : M2} (h : f_Gr_clear  g = some b) : Ev Lx 173 cd_173 0 [some (.ref 152)] [] g (none, b) := by
  unfold f_Gr_clear at h
  refine ev_rn (n := 2) (i2 := 2) (L2 := [some (.ref 152)]) (st2 := [.int (-1 : Int32), .ref 152]) (g2 := g) cdE_173 rfl ?_
  refine bd_elim h (fun g1 hg1 h => ?_)
  refine ev_pf (g2 := g1) rfl (rfl : S0[152]? = some _) (by decide) (by rw [hg1] <;> rfl) ?_
  cases h
  exact ev_ret rfl rfl
def f_Gr_offer (p0 : Nat) (p1 : Int32) (g : M2) : Option (M2) := (if (g.1 152 0) = (-1 : Int32) then (bd (uI g 152 0 p1) fun g2 => (bd (uJ g2 152 1 (f_Nu_powerX p0 g)) fun g3 => (bd (uJ g3 152 2 (f_Nu_powerY p0 g)) fun g4 => some g4))) else ((f_Da_signOf ((f_Nu_powerX p0 g) - (g.2 152 1)) ((f_Nu_powerY p0 g) - (g.2 152 2)) g).bind fun q5 => (if q5 ≤ 0 then some g else (bd (uI g 152 0 p1) fun g7 => (bd (uJ g7 152 1 (f_Nu_powerX p0 g)) fun g8 => (bd (uJ g8 152 2 (f_Nu_powerY p0 g)) fun g9 => some g9))))))
theorem e_Gr_offer {Lx : Nat} (p0 : Nat) (p1 : Int32) (hp0 : IsNum p0) (g : M2) {b : M2} (h : f_Gr_offer p0 p1 g = some b) : Ev Lx 174 cd_174 0 [some (.ref 152), some (.ref p0), some (.int p1)] [] g (none, b) := by
  unfold f_Gr_offer at h
  refine ev_rn (n := 1) (i2 := 1) (L2 := [some (.ref 152), some (.ref p0), some (.int p1)]) (st2 := [.ref p0]) (g2 := g) cdE_174 rfl ?_
  refine ev_call rfl cdE_97 (cokV rfl rfl hp0 rfl) rfl rfl (e_Nu_powerX p0 hp0 g rfl) ?_
  refine ev_rn (n := 1) (i2 := 3) (L2 := [some (.ref 152), some (.ref p0), some (.int p1), some (.long (f_Nu_powerX p0 g)), none]) (st2 := []) (g2 := g) cdE_174 rfl ?_
  refine ev_rn (n := 1) (i2 := 4) (L2 := [some (.ref 152), some (.ref p0), some (.int p1), some (.long (f_Nu_powerX p0 g)), none]) (st2 := [.ref p0]) (g2 := g) cdE_174 rfl ?_
  refine ev_call rfl cdE_98 (cokV rfl rfl hp0 rfl) rfl rfl (e_Nu_powerY p0 hp0 g rfl) ?_
  refine ev_rn (n := 1) (i2 := 6) (L2 := [some (.ref 152), some (.ref p0), some (.int p1), some (.long (f_Nu_powerX p0 g)), none, some (.long (f_Nu_powerY p0 g)), none]) (st2 := []) (g2 := g) cdE_174 rfl ?_
  refine ev_rn (n := 3) (i2 := 9) (L2 := [some (.ref 152), some (.ref p0), some (.int p1), some (.long (f_Nu_powerX p0 g)), none, some (.long (f_Nu_powerY p0 g)), none]) (st2 := [.int (-1 : Int32), .int (g.1 152 0)]) (g2 := g) cdE_174 rfl ?_
  by_cases hc1 : (g.1 152 0) = (-1 : Int32)
  · rw [if_pos hc1] at h
    refine ev_ift cdE_174 rfl (cn_t hc1) ?_
    refine ev_rn (n := 2) (i2 := 22) (L2 := [some (.ref 152), some (.ref p0), some (.int p1), some (.long (f_Nu_powerX p0 g)), none, some (.long (f_Nu_powerY p0 g)), none]) (st2 := [.int p1, .ref 152]) (g2 := g) cdE_174 rfl ?_
    refine bd_elim h (fun g2 hg2 h => ?_)
    refine ev_pf (g2 := g2) rfl (rfl : S0[152]? = some _) (by decide) (by rw [hg2] <;> rfl) ?_
    refine ev_rn (n := 2) (i2 := 25) (L2 := [some (.ref 152), some (.ref p0), some (.int p1), some (.long (f_Nu_powerX p0 g)), none, some (.long (f_Nu_powerY p0 g)), none]) (st2 := [.long (f_Nu_powerX p0 g), .ref 152]) (g2 := g2) cdE_174 rfl ?_
    refine bd_elim h (fun g3 hg3 h => ?_)
    refine ev_pf (g2 := g3) rfl (rfl : S0[152]? = some _) (by decide) (by rw [hg3] <;> rfl) ?_
    refine ev_rn (n := 2) (i2 := 28) (L2 := [some (.ref 152), some (.ref p0), some (.int p1), some (.long (f_Nu_powerX p0 g)), none, some (.long (f_Nu_powerY p0 g)), none]) (st2 := [.long (f_Nu_powerY p0 g), .ref 152]) (g2 := g3) cdE_174 rfl ?_
    refine bd_elim h (fun g4 hg4 h => ?_)
    refine ev_pf (g2 := g4) rfl (rfl : S0[152]? = some _) (by decide) (by rw [hg4] <;> rfl) ?_
    cases h
    exact ev_ret rfl rfl
  · rw [if_neg hc1] at h
    refine ev_iff rfl (cn_f hc1) ?_
    refine ev_rn (n := 8) (i2 := 18) (L2 := [some (.ref 152), some (.ref p0), some (.int p1), some (.long (f_Nu_powerX p0 g)), none, some (.long (f_Nu_powerY p0 g)), none]) (st2 := [.long ((f_Nu_powerY p0 g) - (g.2 152 2)), .long ((f_Nu_powerX p0 g) - (g.2 152 1))]) (g2 := g) cdE_174 rfl ?_
    obtain ⟨q5, hq5, h⟩ := Option.bind_eq_some_iff.mp h
    refine ev_call rfl cdE_144 rfl rfl rfl (e_Da_signOf ((f_Nu_powerX p0 g) - (g.2 152 1)) ((f_Nu_powerY p0 g) - (g.2 152 2))  g hq5) ?_
    by_cases hc6 : q5 ≤ 0
    · rw [if_pos hc6] at h
      refine ev_zft cdE_174 rfl (cn_t hc6) ?_
      cases h
      exact ev_ret rfl rfl
    · rw [if_neg hc6] at h
      refine ev_zff rfl (cn_f hc6) ?_
      refine ev_rn (n := 2) (i2 := 22) (L2 := [some (.ref 152), some (.ref p0), some (.int p1), some (.long (f_Nu_powerX p0 g)), none, some (.long (f_Nu_powerY p0 g)), none]) (st2 := [.int p1, .ref 152]) (g2 := g) cdE_174 rfl ?_
      refine bd_elim h (fun g7 hg7 h => ?_)
      refine ev_pf (g2 := g7) rfl (rfl : S0[152]? = some _) (by decide) (by rw [hg7] <;> rfl) ?_
      refine ev_rn (n := 2) (i2 := 25) (L2 := [some (.ref 152), some (.ref p0), some (.int p1), some (.long (f_Nu_powerX p0 g)), none, some (.long (f_Nu_powerY p0 g)), none]) (st2 := [.long (f_Nu_powerX p0 g), .ref 152]) (g2 := g7) cdE_174 rfl ?_
      refine bd_elim h (fun g8 hg8 h => ?_)
      refine ev_pf (g2 := g8) rfl (rfl : S0[152]? = some _) (by decide) (by rw [hg8] <;> rfl) ?_
      refine ev_rn (n := 2) (i2 := 28) (L2 := [some (.ref 152), some (.ref p0), some (.int p1), some (.long (f_Nu_powerX p0 g)), none, some (.long (f_Nu_powerY p0 g)), none]) (st2 := [.long (f_Nu_powerY p0 g), .ref 152]) (g2 := g8) cdE_174 rfl ?_
      refine bd_elim h (fun g9 hg9 h => ?_)
      refine ev_pf (g2 := g9) rfl (rfl : S0[152]? = some _) (by decide) (by rw [hg9] <;> rfl) ?_
      cases h
      exact ev_ret rfl rfl
def b_Da_nearest_16 (v1 : Int32) (v2 : Int32) (v3 : Int32) (g : M2) : Option ((Int32 × M2) ⊕ M2) := (if (12 : Int32) ≤ v3 then some (.inr g) else (if ((v2 >>> (v3 &&& 31)) &&& (1 : Int32)) = 0 then ((f_Pl_meet 7 v1 v3 155 g).bind fun q6 => ((f_Gr_offer 155 v3 q6).bind fun q7 => some (.inl ((v3 + (1 : Int32)), q7)))) else some (.inl ((v3 + (1 : Int32)), g))))
theorem tb_Da_nearest_16 {Lx : Nat} (v1 : Int32) (v2 : Int32)  (v3 : Int32) (g : M2) {b : (Int32 × M2) ⊕ M2} {o : Option Value × M2} (h : b_Da_nearest_16 v1 v2 v3 g = some b) (hb : Sum.elim (fun s => Ev Lx 175 cd_175 16 [some (.ref 0), some (.int v1), some (.int v2), some (.int s.1)] [] s.2 o) (fun e => Ev Lx 175 cd_175 41 [some (.ref 0)] [] e o) b) : Ev Lx 175 cd_175 16 [some (.ref 0), some (.int v1), some (.int v2), some (.int v3)] [] g o := by
  unfold b_Da_nearest_16 at h
  refine ev_rn (n := 2) (i2 := 18) (L2 := [some (.ref 0), some (.int v1), some (.int v2), some (.int v3)]) (st2 := [.int (12 : Int32), .int v3]) (g2 := g) cdE_175 rfl ?_
  by_cases hc4 : (12 : Int32) ≤ v3
  · rw [if_pos hc4] at h
    refine ev_ift cdE_175 rfl (cn_t hc4) ?_
    cases h
    exact ev_wk (L := [some (.ref 0)]) hb ⟨rfl, trivial⟩
  · rw [if_neg hc4] at h
    refine ev_iff rfl (cn_f hc4) ?_
    refine ev_rn (n := 5) (i2 := 24) (L2 := [some (.ref 0), some (.int v1), some (.int v2), some (.int v3)]) (st2 := [.int ((v2 >>> (v3 &&& 31)) &&& (1 : Int32))]) (g2 := g) cdE_175 rfl ?_
    by_cases hc5 : ((v2 >>> (v3 &&& 31)) &&& (1 : Int32)) = 0
    · rw [if_pos hc5] at h
      refine ev_zff rfl (cn_f (fun q => q hc5)) ?_
      refine ev_rn (n := 7) (i2 := 32) (L2 := [some (.ref 0), some (.int v1), some (.int v2), some (.int v3)]) (st2 := [.ref 155, .int v3, .int v1, .ref 7]) (g2 := g) cdE_175 rfl ?_
      obtain ⟨q6, hq6, h⟩ := Option.bind_eq_some_iff.mp h
      refine ev_call rfl cdE_78 rfl rfl rfl (e_Pl_meet 7 v1 v3 155 (by decide) (num_lit 155 rfl) g hq6) ?_
      refine ev_rn (n := 5) (i2 := 38) (L2 := [some (.ref 0), some (.int v1), some (.int v2), some (.int v3)]) (st2 := [.int v3, .ref 155, .ref 152]) (g2 := q6) cdE_175 rfl ?_
      obtain ⟨q7, hq7, h⟩ := Option.bind_eq_some_iff.mp h
      refine ev_call rfl cdE_174 rfl rfl rfl (e_Gr_offer 155 v3 (num_lit 155 rfl) q6 hq7) ?_
      refine ev_rn (n := 2) (i2 := 16) (L2 := [some (.ref 0), some (.int v1), some (.int v2), some (.int (v3 + (1 : Int32)))]) (st2 := []) (g2 := q7) cdE_175 rfl ?_
      cases h
      exact ev_wk (L := [some (.ref 0), some (.int v1), some (.int v2), some (.int (v3 + (1 : Int32)))]) hb ⟨rfl, ⟨rfl, ⟨rfl, ⟨rfl, trivial⟩⟩⟩⟩
    · rw [if_neg hc5] at h
      refine ev_zft cdE_175 rfl (cn_t hc5) ?_
      refine ev_rn (n := 2) (i2 := 16) (L2 := [some (.ref 0), some (.int v1), some (.int v2), some (.int (v3 + (1 : Int32)))]) (st2 := []) (g2 := g) cdE_175 rfl ?_
      cases h
      exact ev_wk (L := [some (.ref 0), some (.int v1), some (.int v2), some (.int (v3 + (1 : Int32)))]) hb ⟨rfl, ⟨rfl, ⟨rfl, ⟨rfl, trivial⟩⟩⟩⟩
def f_Da_nearest (p0 : Int32) (g : M2) : Option (Int32 × M2) := (if (f_Da_isDirection p0 g) = 0 then some ((-2 : Int32), g) else ((f_Pl_twinBits 7 p0 g).bind fun q2 => ((f_Gr_clear g).bind fun q3 => ((lp (fun s => b_Da_nearest_16 p0 q2 s.1 s.2) 5000 ((0 : Int32), q3)).bind fun e8 => some ((e8.1 152 0), e8)))))
theorem e_Da_nearest {Lx : Nat} (p0 : Int32)  (g : M2) {b : (Int32 × M2)} (h : f_Da_nearest p0 g = some b) : Ev Lx 175 cd_175 0 [some (.ref 0), some (.int p0)] [] g (some (.int b.1), b.2) := by
  unfold f_Da_nearest at h
  refine ev_rn (n := 1) (i2 := 1) (L2 := [some (.ref 0), some (.int p0)]) (st2 := [.int p0]) (g2 := g) cdE_175 rfl ?_
  refine ev_call rfl cdE_71 rfl rfl rfl (e_Da_isDirection p0  g rfl) ?_
  by_cases hc1 : (f_Da_isDirection p0 g) = 0
  · rw [if_pos hc1] at h
    refine ev_zff rfl (cn_f (fun q => q hc1)) ?_
    refine ev_rn (n := 1) (i2 := 4) (L2 := [some (.ref 0), some (.int p0)]) (st2 := [.int (-2 : Int32)]) (g2 := g) cdE_175 rfl ?_
    cases h
    exact ev_ret rfl rfl
  · rw [if_neg hc1] at h
    refine ev_zft cdE_175 rfl (cn_t hc1) ?_
    refine ev_rn (n := 4) (i2 := 9) (L2 := [some (.ref 0), some (.int p0)]) (st2 := [.int p0, .ref 7]) (g2 := g) cdE_175 rfl ?_
    obtain ⟨q2, hq2, h⟩ := Option.bind_eq_some_iff.mp h
    refine ev_call rfl cdE_172 rfl rfl rfl (e_Pl_twinBits 7 p0 (by decide) g hq2) ?_
    refine ev_rn (n := 3) (i2 := 13) (L2 := [some (.ref 0), some (.int p0), some (.int q2)]) (st2 := [.ref 152]) (g2 := g) cdE_175 rfl ?_
    obtain ⟨q3, hq3, h⟩ := Option.bind_eq_some_iff.mp h
    refine ev_call rfl cdE_173 rfl rfl rfl (e_Gr_clear   g hq3) ?_
    refine ev_rn (n := 2) (i2 := 16) (L2 := [some (.ref 0), some (.int p0), some (.int q2), some (.int (0 : Int32))]) (st2 := []) (g2 := q3) cdE_175 rfl ?_
    obtain ⟨e8, he8, h⟩ := Option.bind_eq_some_iff.mp h
    have hX9 : Ev Lx 175 cd_175 41 [some (.ref 0)] [] e8 (some (.int b.1), b.2) := by
      refine ev_rn (n := 3) (i2 := 44) (L2 := [some (.ref 0)]) (st2 := [.int (e8.1 152 0)]) (g2 := e8) cdE_175 rfl ?_
      cases h
      exact ev_ret rfl rfl
    exact ev_wk (L := [some (.ref 0), some (.int p0), some (.int q2), some (.int (0 : Int32))]) (lp_ind (P := (fun (s : (Int32 × M2)) => Ev Lx 175 cd_175 16 [some (.ref 0), some (.int p0), some (.int q2), some (.int s.1)] [] s.2 (some (.int b.1), b.2))) (fun s s2 hs hP => tb_Da_nearest_16 p0 q2  s.1 s.2 (b := .inl s2) hs hP) (fun s hs => tb_Da_nearest_16 p0 q2  s.1 s.2 (b := .inr e8) hs hX9) _ _ he8) ⟨rfl, ⟨rfl, ⟨rfl, ⟨rfl, trivial⟩⟩⟩⟩
def b_Mo_twinsOf_6 (v1 : Int32) (v2 : Int32) (v3 : Int32) (v4 : Int32) (g : M2) : Option ((Int32 × Int32) ⊕ Int32) := (if (g.1 160 1) ≤ v4 then some (.inr v3) else (if v3 = (-1 : Int32) then ((f_Mo_isBroken v4 g).bind fun q3 => (if q3 = 0 then some (.inl (v4, (v4 + (1 : Int32)))) else some (.inl ((-1 : Int32), (v4 + (1 : Int32)))))) else some (.inr v3)))
theorem tb_Mo_twinsOf_6 {Lx : Nat} (v1 : Int32) (v2 : Int32)  (v3 : Int32) (v4 : Int32) (g : M2) {b : (Int32 × Int32) ⊕ Int32} {o : Option Value × M2} (h : b_Mo_twinsOf_6 v1 v2 v3 v4 g = some b) (hb : Sum.elim (fun s => Ev Lx 176 cd_176 6 [some (.ref 157), some (.int v1), some (.int v2), some (.int s.1), some (.int s.2)] [] g o) (fun e => Ev Lx 176 cd_176 25 [some (.ref 157), some (.int v1), some (.int v2), some (.int e)] [] g o) b) : Ev Lx 176 cd_176 6 [some (.ref 157), some (.int v1), some (.int v2), some (.int v3), some (.int v4)] [] g o := by
  unfold b_Mo_twinsOf_6 at h
  refine ev_rn (n := 4) (i2 := 10) (L2 := [some (.ref 157), some (.int v1), some (.int v2), some (.int v3), some (.int v4)]) (st2 := [.int (1 : Int32), .ref 160, .int v4]) (g2 := g) cdE_176 rfl ?_
  refine ev_iaload (v := .int (g.1 160 1)) rfl (kd_of (show S0[160]? = some (100, 19, List.replicate 19 none) from rfl)) (by decide) ⟨by decide, by decide⟩ rfl ?_
  by_cases hc1 : (g.1 160 1) ≤ v4
  · rw [if_pos hc1] at h
    refine ev_ift cdE_176 rfl (cn_t hc1) ?_
    cases h
    exact ev_wk (L := [some (.ref 157), some (.int v1), some (.int v2), some (.int v3)]) hb ⟨rfl, ⟨rfl, ⟨rfl, ⟨rfl, trivial⟩⟩⟩⟩
  · rw [if_neg hc1] at h
    refine ev_iff rfl (cn_f hc1) ?_
    refine ev_rn (n := 2) (i2 := 14) (L2 := [some (.ref 157), some (.int v1), some (.int v2), some (.int v3), some (.int v4)]) (st2 := [.int (-1 : Int32), .int v3]) (g2 := g) cdE_176 rfl ?_
    by_cases hc2 : v3 = (-1 : Int32)
    · rw [if_pos hc2] at h
      refine ev_iff rfl (cn_f (fun q => q hc2)) ?_
      refine ev_rn (n := 2) (i2 := 17) (L2 := [some (.ref 157), some (.int v1), some (.int v2), some (.int v3), some (.int v4)]) (st2 := [.int v4, .ref 157]) (g2 := g) cdE_176 rfl ?_
      obtain ⟨q3, hq3, h⟩ := Option.bind_eq_some_iff.mp h
      refine ev_call rfl cdE_61 rfl rfl rfl (e_Mo_isBroken v4  g hq3) ?_
      by_cases hc4 : q3 = 0
      · rw [if_pos hc4] at h
        refine ev_zft cdE_176 rfl (cn_t hc4) ?_
        refine ev_rn (n := 3) (i2 := 24) (L2 := [some (.ref 157), some (.int v1), some (.int v2), some (.int v4), some (.int (v4 + (1 : Int32)))]) (st2 := []) (g2 := g) cdE_176 rfl ?_
        refine ev_rn (n := 1) (i2 := 6) (L2 := [some (.ref 157), some (.int v1), some (.int v2), some (.int v4), some (.int (v4 + (1 : Int32)))]) (st2 := []) (g2 := g) cdE_176 rfl ?_
        cases h
        exact ev_wk (L := [some (.ref 157), some (.int v1), some (.int v2), some (.int v4), some (.int (v4 + (1 : Int32)))]) hb ⟨rfl, ⟨rfl, ⟨rfl, ⟨rfl, ⟨rfl, trivial⟩⟩⟩⟩⟩
      · rw [if_neg hc4] at h
        refine ev_zff rfl (cn_f hc4) ?_
        refine ev_rn (n := 4) (i2 := 24) (L2 := [some (.ref 157), some (.int v1), some (.int v2), some (.int (-1 : Int32)), some (.int (v4 + (1 : Int32)))]) (st2 := []) (g2 := g) cdE_176 rfl ?_
        refine ev_rn (n := 1) (i2 := 6) (L2 := [some (.ref 157), some (.int v1), some (.int v2), some (.int (-1 : Int32)), some (.int (v4 + (1 : Int32)))]) (st2 := []) (g2 := g) cdE_176 rfl ?_
        cases h
        exact ev_wk (L := [some (.ref 157), some (.int v1), some (.int v2), some (.int (-1 : Int32)), some (.int (v4 + (1 : Int32)))]) hb ⟨rfl, ⟨rfl, ⟨rfl, ⟨rfl, ⟨rfl, trivial⟩⟩⟩⟩⟩
    · rw [if_neg hc2] at h
      refine ev_ift cdE_176 rfl (cn_t hc2) ?_
      cases h
      exact ev_wk (L := [some (.ref 157), some (.int v1), some (.int v2), some (.int v3)]) hb ⟨rfl, ⟨rfl, ⟨rfl, ⟨rfl, trivial⟩⟩⟩⟩
def b_Mo_twinsOf_34 (v1 : Int32) (v2 : Int32) (v3 : Int32) (v4 : Int32) (v5 : Int32) (v6 : Int32) (g : M2) : Option ((Int32 × Int32) ⊕ Int32) := (if (g.1 160 1) ≤ v6 then some (.inr v5) else (if v5 = 0 then some (.inl ((0 : Int32), (v6 + (1 : Int32)))) else ((f_Mo_isBroken v6 g).bind fun q9 => (if q9 = 0 then (if inb ((2 : Int32) + v6) 19 then (if inb ((2 : Int32) + v3) 19 then (if (((v4 - v1) * ((g.1 160 ((2 : Int32) + v6).toNatClampNeg) - (g.1 160 ((2 : Int32) + v3).toNatClampNeg))) - ((v4 - v1) * ((g.1 160 ((2 : Int32) + v6).toNatClampNeg) - (g.1 160 ((2 : Int32) + v3).toNatClampNeg))) / (12 : Int32) * (12 : Int32)) = 0 then some (.inl ((1 : Int32), (v6 + (1 : Int32)))) else some (.inl ((0 : Int32), (v6 + (1 : Int32))))) else none) else none) else some (.inl ((1 : Int32), (v6 + (1 : Int32))))))))
theorem tb_Mo_twinsOf_34 {Lx : Nat} (v1 : Int32) (v2 : Int32) (v3 : Int32) (v4 : Int32)  (v5 : Int32) (v6 : Int32) (g : M2) {b : (Int32 × Int32) ⊕ Int32} {o : Option Value × M2} (h : b_Mo_twinsOf_34 v1 v2 v3 v4 v5 v6 g = some b) (hb : Sum.elim (fun s => Ev Lx 176 cd_176 34 [some (.ref 157), some (.int v1), some (.int v2), some (.int v3), some (.int v4), some (.int s.1), some (.int s.2)] [] g o) (fun e => Ev Lx 176 cd_176 72 [some (.ref 157), some (.int v1), some (.int v2), some (.int v3), some (.int v4), some (.int e)] [] g o) b) : Ev Lx 176 cd_176 34 [some (.ref 157), some (.int v1), some (.int v2), some (.int v3), some (.int v4), some (.int v5), some (.int v6)] [] g o := by
  unfold b_Mo_twinsOf_34 at h
  refine ev_rn (n := 4) (i2 := 38) (L2 := [some (.ref 157), some (.int v1), some (.int v2), some (.int v3), some (.int v4), some (.int v5), some (.int v6)]) (st2 := [.int (1 : Int32), .ref 160, .int v6]) (g2 := g) cdE_176 rfl ?_
  refine ev_iaload (v := .int (g.1 160 1)) rfl (kd_of (show S0[160]? = some (100, 19, List.replicate 19 none) from rfl)) (by decide) ⟨by decide, by decide⟩ rfl ?_
  by_cases hc7 : (g.1 160 1) ≤ v6
  · rw [if_pos hc7] at h
    refine ev_ift cdE_176 rfl (cn_t hc7) ?_
    cases h
    exact ev_wk (L := [some (.ref 157), some (.int v1), some (.int v2), some (.int v3), some (.int v4), some (.int v5)]) hb ⟨rfl, ⟨rfl, ⟨rfl, ⟨rfl, ⟨rfl, ⟨rfl, trivial⟩⟩⟩⟩⟩⟩
  · rw [if_neg hc7] at h
    refine ev_iff rfl (cn_f hc7) ?_
    refine ev_rn (n := 1) (i2 := 41) (L2 := [some (.ref 157), some (.int v1), some (.int v2), some (.int v3), some (.int v4), some (.int v5), some (.int v6)]) (st2 := [.int v5]) (g2 := g) cdE_176 rfl ?_
    by_cases hc8 : v5 = 0
    · rw [if_pos hc8] at h
      refine ev_zft cdE_176 rfl (cn_t hc8) ?_
      refine ev_rn (n := 3) (i2 := 71) (L2 := [some (.ref 157), some (.int v1), some (.int v2), some (.int v3), some (.int v4), some (.int (0 : Int32)), some (.int (v6 + (1 : Int32)))]) (st2 := []) (g2 := g) cdE_176 rfl ?_
      refine ev_rn (n := 1) (i2 := 34) (L2 := [some (.ref 157), some (.int v1), some (.int v2), some (.int v3), some (.int v4), some (.int (0 : Int32)), some (.int (v6 + (1 : Int32)))]) (st2 := []) (g2 := g) cdE_176 rfl ?_
      cases h
      exact ev_wk (L := [some (.ref 157), some (.int v1), some (.int v2), some (.int v3), some (.int v4), some (.int (0 : Int32)), some (.int (v6 + (1 : Int32)))]) hb ⟨rfl, ⟨rfl, ⟨rfl, ⟨rfl, ⟨rfl, ⟨rfl, ⟨rfl, trivial⟩⟩⟩⟩⟩⟩⟩
    · rw [if_neg hc8] at h
      refine ev_zff rfl (cn_f hc8) ?_
      refine ev_rn (n := 2) (i2 := 44) (L2 := [some (.ref 157), some (.int v1), some (.int v2), some (.int v3), some (.int v4), some (.int v5), some (.int v6)]) (st2 := [.int v6, .ref 157]) (g2 := g) cdE_176 rfl ?_
      obtain ⟨q9, hq9, h⟩ := Option.bind_eq_some_iff.mp h
      refine ev_call rfl cdE_61 rfl rfl rfl (e_Mo_isBroken v6  g hq9) ?_
      by_cases hc10 : q9 = 0
      · rw [if_pos hc10] at h
        refine ev_zff rfl (cn_f (fun q => q hc10)) ?_
        refine ev_rn (n := 8) (i2 := 54) (L2 := [some (.ref 157), some (.int v1), some (.int v2), some (.int v3), some (.int v4), some (.int v5), some (.int v6)]) (st2 := [.int ((2 : Int32) + v6), .ref 160, .int (v4 - v1)]) (g2 := g) cdE_176 rfl ?_
        by_cases hi11 : inb ((2 : Int32) + v6) 19
        · rw [if_pos hi11] at h
          refine ev_iaload (v := .int (g.1 160 ((2 : Int32) + v6).toNatClampNeg)) rfl (kd_of (show S0[160]? = some (100, 19, List.replicate 19 none) from rfl)) (by decide) hi11 rfl ?_
          refine ev_rn (n := 5) (i2 := 60) (L2 := [some (.ref 157), some (.int v1), some (.int v2), some (.int v3), some (.int v4), some (.int v5), some (.int v6)]) (st2 := [.int ((2 : Int32) + v3), .ref 160, .int (g.1 160 ((2 : Int32) + v6).toNatClampNeg), .int (v4 - v1)]) (g2 := g) cdE_176 rfl ?_
          by_cases hi12 : inb ((2 : Int32) + v3) 19
          · rw [if_pos hi12] at h
            refine ev_iaload (v := .int (g.1 160 ((2 : Int32) + v3).toNatClampNeg)) rfl (kd_of (show S0[160]? = some (100, 19, List.replicate 19 none) from rfl)) (by decide) hi12 rfl ?_
            refine ev_rn (n := 3) (i2 := 64) (L2 := [some (.ref 157), some (.int v1), some (.int v2), some (.int v3), some (.int v4), some (.int v5), some (.int v6)]) (st2 := [.int (12 : Int32), .int ((v4 - v1) * ((g.1 160 ((2 : Int32) + v6).toNatClampNeg) - (g.1 160 ((2 : Int32) + v3).toNatClampNeg)))]) (g2 := g) cdE_176 rfl ?_
            refine ev_irem rfl (by decide) ?_
            by_cases hc13 : (((v4 - v1) * ((g.1 160 ((2 : Int32) + v6).toNatClampNeg) - (g.1 160 ((2 : Int32) + v3).toNatClampNeg))) - ((v4 - v1) * ((g.1 160 ((2 : Int32) + v6).toNatClampNeg) - (g.1 160 ((2 : Int32) + v3).toNatClampNeg))) / (12 : Int32) * (12 : Int32)) = 0
            · rw [if_pos hc13] at h
              refine ev_zff rfl (cn_f (fun q => q hc13)) ?_
              refine ev_rn (n := 4) (i2 := 71) (L2 := [some (.ref 157), some (.int v1), some (.int v2), some (.int v3), some (.int v4), some (.int (1 : Int32)), some (.int (v6 + (1 : Int32)))]) (st2 := []) (g2 := g) cdE_176 rfl ?_
              refine ev_rn (n := 1) (i2 := 34) (L2 := [some (.ref 157), some (.int v1), some (.int v2), some (.int v3), some (.int v4), some (.int (1 : Int32)), some (.int (v6 + (1 : Int32)))]) (st2 := []) (g2 := g) cdE_176 rfl ?_
              cases h
              exact ev_wk (L := [some (.ref 157), some (.int v1), some (.int v2), some (.int v3), some (.int v4), some (.int (1 : Int32)), some (.int (v6 + (1 : Int32)))]) hb ⟨rfl, ⟨rfl, ⟨rfl, ⟨rfl, ⟨rfl, ⟨rfl, ⟨rfl, trivial⟩⟩⟩⟩⟩⟩⟩
            · rw [if_neg hc13] at h
              refine ev_zft cdE_176 rfl (cn_t hc13) ?_
              refine ev_rn (n := 3) (i2 := 71) (L2 := [some (.ref 157), some (.int v1), some (.int v2), some (.int v3), some (.int v4), some (.int (0 : Int32)), some (.int (v6 + (1 : Int32)))]) (st2 := []) (g2 := g) cdE_176 rfl ?_
              refine ev_rn (n := 1) (i2 := 34) (L2 := [some (.ref 157), some (.int v1), some (.int v2), some (.int v3), some (.int v4), some (.int (0 : Int32)), some (.int (v6 + (1 : Int32)))]) (st2 := []) (g2 := g) cdE_176 rfl ?_
              cases h
              exact ev_wk (L := [some (.ref 157), some (.int v1), some (.int v2), some (.int v3), some (.int v4), some (.int (0 : Int32)), some (.int (v6 + (1 : Int32)))]) hb ⟨rfl, ⟨rfl, ⟨rfl, ⟨rfl, ⟨rfl, ⟨rfl, ⟨rfl, trivial⟩⟩⟩⟩⟩⟩⟩
          · rw [if_neg hi12] at h
            cases h
        · rw [if_neg hi11] at h
          cases h
      · rw [if_neg hc10] at h
        refine ev_zft cdE_176 rfl (cn_t hc10) ?_
        refine ev_rn (n := 4) (i2 := 71) (L2 := [some (.ref 157), some (.int v1), some (.int v2), some (.int v3), some (.int v4), some (.int (1 : Int32)), some (.int (v6 + (1 : Int32)))]) (st2 := []) (g2 := g) cdE_176 rfl ?_
        refine ev_rn (n := 1) (i2 := 34) (L2 := [some (.ref 157), some (.int v1), some (.int v2), some (.int v3), some (.int v4), some (.int (1 : Int32)), some (.int (v6 + (1 : Int32)))]) (st2 := []) (g2 := g) cdE_176 rfl ?_
        cases h
        exact ev_wk (L := [some (.ref 157), some (.int v1), some (.int v2), some (.int v3), some (.int v4), some (.int (1 : Int32)), some (.int (v6 + (1 : Int32)))]) hb ⟨rfl, ⟨rfl, ⟨rfl, ⟨rfl, ⟨rfl, ⟨rfl, ⟨rfl, trivial⟩⟩⟩⟩⟩⟩⟩
def b_Mo_twinsOf_27 (v1 : Int32) (v3 : Int32) (v2 : Int32) (v4 : Int32) (g : M2) : Option ((Int32 × Int32) ⊕ Int32) := (if (12 : Int32) ≤ v4 then some (.inr v2) else ((lp (fun s => b_Mo_twinsOf_34 v1 v2 v3 v4 s.1 s.2 g) 5000 ((1 : Int32), (0 : Int32))).bind fun e14 => (if e14 = 0 then some (.inl ((v2 ||| (0 : Int32)), (v4 + (1 : Int32)))) else some (.inl ((v2 ||| ((1 : Int32) <<< (v4 &&& 31))), (v4 + (1 : Int32)))))))
theorem tb_Mo_twinsOf_27 {Lx : Nat} (v1 : Int32) (v3 : Int32)  (v2 : Int32) (v4 : Int32) (g : M2) {b : (Int32 × Int32) ⊕ Int32} {o : Option Value × M2} (h : b_Mo_twinsOf_27 v1 v3 v2 v4 g = some b) (hb : Sum.elim (fun s => Ev Lx 176 cd_176 27 [some (.ref 157), some (.int v1), some (.int s.1), some (.int v3), some (.int s.2)] [] g o) (fun e => Ev Lx 176 cd_176 84 [none, none, some (.int e)] [] g o) b) : Ev Lx 176 cd_176 27 [some (.ref 157), some (.int v1), some (.int v2), some (.int v3), some (.int v4)] [] g o := by
  unfold b_Mo_twinsOf_27 at h
  refine ev_rn (n := 2) (i2 := 29) (L2 := [some (.ref 157), some (.int v1), some (.int v2), some (.int v3), some (.int v4)]) (st2 := [.int (12 : Int32), .int v4]) (g2 := g) cdE_176 rfl ?_
  by_cases hc6 : (12 : Int32) ≤ v4
  · rw [if_pos hc6] at h
    refine ev_ift cdE_176 rfl (cn_t hc6) ?_
    cases h
    exact ev_wk (L := [none, none, some (.int v2)]) hb ⟨rfl, trivial⟩
  · rw [if_neg hc6] at h
    refine ev_iff rfl (cn_f hc6) ?_
    refine ev_rn (n := 4) (i2 := 34) (L2 := [some (.ref 157), some (.int v1), some (.int v2), some (.int v3), some (.int v4), some (.int (1 : Int32)), some (.int (0 : Int32))]) (st2 := []) (g2 := g) cdE_176 rfl ?_
    obtain ⟨e14, he14, h⟩ := Option.bind_eq_some_iff.mp h
    have hX16 : Ev Lx 176 cd_176 72 [some (.ref 157), some (.int v1), some (.int v2), some (.int v3), some (.int v4), some (.int e14)] [] g o := by
      refine ev_rn (n := 2) (i2 := 74) (L2 := [some (.ref 157), some (.int v1), some (.int v2), some (.int v3), some (.int v4), some (.int e14)]) (st2 := [.int e14, .int v2]) (g2 := g) cdE_176 rfl ?_
      by_cases hc15 : e14 = 0
      · rw [if_pos hc15] at h
        refine ev_zft cdE_176 rfl (cn_t hc15) ?_
        refine ev_rn (n := 4) (i2 := 83) (L2 := [some (.ref 157), some (.int v1), some (.int (v2 ||| (0 : Int32))), some (.int v3), some (.int (v4 + (1 : Int32))), some (.int e14)]) (st2 := []) (g2 := g) cdE_176 rfl ?_
        refine ev_rn (n := 1) (i2 := 27) (L2 := [some (.ref 157), some (.int v1), some (.int (v2 ||| (0 : Int32))), some (.int v3), some (.int (v4 + (1 : Int32))), some (.int e14)]) (st2 := []) (g2 := g) cdE_176 rfl ?_
        cases h
        exact ev_wk (L := [some (.ref 157), some (.int v1), some (.int (v2 ||| (0 : Int32))), some (.int v3), some (.int (v4 + (1 : Int32)))]) hb ⟨rfl, ⟨rfl, ⟨rfl, ⟨rfl, ⟨rfl, trivial⟩⟩⟩⟩⟩
      · rw [if_neg hc15] at h
        refine ev_zff rfl (cn_f hc15) ?_
        refine ev_rn (n := 7) (i2 := 83) (L2 := [some (.ref 157), some (.int v1), some (.int (v2 ||| ((1 : Int32) <<< (v4 &&& 31)))), some (.int v3), some (.int (v4 + (1 : Int32))), some (.int e14)]) (st2 := []) (g2 := g) cdE_176 rfl ?_
        refine ev_rn (n := 1) (i2 := 27) (L2 := [some (.ref 157), some (.int v1), some (.int (v2 ||| ((1 : Int32) <<< (v4 &&& 31)))), some (.int v3), some (.int (v4 + (1 : Int32))), some (.int e14)]) (st2 := []) (g2 := g) cdE_176 rfl ?_
        cases h
        exact ev_wk (L := [some (.ref 157), some (.int v1), some (.int (v2 ||| ((1 : Int32) <<< (v4 &&& 31)))), some (.int v3), some (.int (v4 + (1 : Int32)))]) hb ⟨rfl, ⟨rfl, ⟨rfl, ⟨rfl, ⟨rfl, trivial⟩⟩⟩⟩⟩
    exact ev_wk (L := [some (.ref 157), some (.int v1), some (.int v2), some (.int v3), some (.int v4), some (.int (1 : Int32)), some (.int (0 : Int32))]) (lp_ind (P := (fun (s : (Int32 × Int32)) => Ev Lx 176 cd_176 34 [some (.ref 157), some (.int v1), some (.int v2), some (.int v3), some (.int v4), some (.int s.1), some (.int s.2)] [] g o)) (fun s s2 hs hP => tb_Mo_twinsOf_34 v1 v2 v3 v4  s.1 s.2 g (b := .inl s2) hs hP) (fun s hs => tb_Mo_twinsOf_34 v1 v2 v3 v4  s.1 s.2 g (b := .inr e14) hs hX16) _ _ he14) ⟨rfl, ⟨rfl, ⟨rfl, ⟨rfl, ⟨rfl, ⟨rfl, ⟨rfl, trivial⟩⟩⟩⟩⟩⟩⟩
def j_Mo_twinsOf_25 (v1 : Int32) (v2 : Int32) (v3 : Int32) (g : M2) : Option (Int32) := ((lp (fun s => b_Mo_twinsOf_27 v1 v3 s.1 s.2 g) 5000 (v2, (0 : Int32))).bind fun e17 => some e17)
theorem tj_Mo_twinsOf_25 {Lx : Nat}  (v1 : Int32) (v2 : Int32) (v3 : Int32)  (g : M2) {b : Int32} (h : j_Mo_twinsOf_25 v1 v2 v3 g = some b) : Ev Lx 176 cd_176 25 [some (.ref 157), some (.int v1), some (.int v2), some (.int v3)] [] g (some (.int b), g) := by
  unfold j_Mo_twinsOf_25 at h
  refine ev_rn (n := 2) (i2 := 27) (L2 := [some (.ref 157), some (.int v1), some (.int v2), some (.int v3), some (.int (0 : Int32))]) (st2 := []) (g2 := g) cdE_176 rfl ?_
  obtain ⟨e17, he17, h⟩ := Option.bind_eq_some_iff.mp h
  have hX18 : Ev Lx 176 cd_176 84 [none, none, some (.int e17)] [] g (some (.int b), g) := by
    refine ev_rn (n := 1) (i2 := 85) (L2 := [none, none, some (.int e17)]) (st2 := [.int e17]) (g2 := g) cdE_176 rfl ?_
    cases h
    exact ev_ret rfl rfl
  exact ev_wk (L := [some (.ref 157), some (.int v1), some (.int v2), some (.int v3), some (.int (0 : Int32))]) (lp_ind (P := (fun (s : (Int32 × Int32)) => Ev Lx 176 cd_176 27 [some (.ref 157), some (.int v1), some (.int s.1), some (.int v3), some (.int s.2)] [] g (some (.int b), g))) (fun s s2 hs hP => tb_Mo_twinsOf_27 v1 v3  s.1 s.2 g (b := .inl s2) hs hP) (fun s hs => tb_Mo_twinsOf_27 v1 v3  s.1 s.2 g (b := .inr e17) hs hX18) _ _ he17) ⟨rfl, ⟨rfl, ⟨rfl, ⟨rfl, ⟨rfl, trivial⟩⟩⟩⟩⟩
def f_Mo_twinsOf (p0 : Int32) (g : M2) : Option (Int32) := ((lp (fun s => b_Mo_twinsOf_6 p0 (0 : Int32) s.1 s.2 g) 5000 ((-1 : Int32), (0 : Int32))).bind fun e5 => (j_Mo_twinsOf_25 p0 (0 : Int32) e5 g))
theorem e_Mo_twinsOf {Lx : Nat} (p0 : Int32)  (g : M2) {b : Int32} (h : f_Mo_twinsOf p0 g = some b) : Ev Lx 176 cd_176 0 [some (.ref 157), some (.int p0)] [] g (some (.int b), g) := by
  unfold f_Mo_twinsOf at h
  refine ev_rn (n := 4) (i2 := 4) (L2 := [some (.ref 157), some (.int p0), some (.int (0 : Int32)), some (.int (-1 : Int32))]) (st2 := []) (g2 := g) cdE_176 rfl ?_
  refine ev_rn (n := 2) (i2 := 6) (L2 := [some (.ref 157), some (.int p0), some (.int (0 : Int32)), some (.int (-1 : Int32)), some (.int (0 : Int32))]) (st2 := []) (g2 := g) cdE_176 rfl ?_
  obtain ⟨e5, he5, h⟩ := Option.bind_eq_some_iff.mp h
  have hX19 : Ev Lx 176 cd_176 25 [some (.ref 157), some (.int p0), some (.int (0 : Int32)), some (.int e5)] [] g (some (.int b), g) := by
    exact ev_wk (L := [some (.ref 157), some (.int p0), some (.int (0 : Int32)), some (.int e5)]) (tj_Mo_twinsOf_25  p0 (0 : Int32) e5  g h) ⟨rfl, ⟨rfl, ⟨rfl, ⟨rfl, trivial⟩⟩⟩⟩
  exact ev_wk (L := [some (.ref 157), some (.int p0), some (.int (0 : Int32)), some (.int (-1 : Int32)), some (.int (0 : Int32))]) (lp_ind (P := (fun (s : (Int32 × Int32)) => Ev Lx 176 cd_176 6 [some (.ref 157), some (.int p0), some (.int (0 : Int32)), some (.int s.1), some (.int s.2)] [] g (some (.int b), g))) (fun s s2 hs hP => tb_Mo_twinsOf_6 p0 (0 : Int32)  s.1 s.2 g (b := .inl s2) hs hP) (fun s hs => tb_Mo_twinsOf_6 p0 (0 : Int32)  s.1 s.2 g (b := .inr e5) hs hX19) _ _ he5) ⟨rfl, ⟨rfl, ⟨rfl, ⟨rfl, ⟨rfl, trivial⟩⟩⟩⟩⟩
def b_Mo_nearest_13 (v1 : Int32) (v2 : Int32) (v3 : Int64) (v5 : Int64) (v7 : Int32) (g : M2) : Option ((Int32 × Int64 × Int64 × Int32 × M2) ⊕ (Int32 × M2)) := (if (12 : Int32) ≤ v7 then some (.inr (v2, g)) else ((f_Mo_twinsOf v1 g).bind fun q3 => (if ((q3 >>> (v7 &&& 31)) &&& (1 : Int32)) = (1 : Int32) then some (.inl (v2, v3, v5, (v7 + (1 : Int32)), g)) else ((f_Mo_laysLikeness v1 v7 g).bind fun q5 => (if v2 = (-1 : Int32) then some (.inl (v7, (q5.2 157 3), (q5.2 157 4), (v7 + (1 : Int32)), q5)) else ((f_Mo_signOf ((q5.2 157 3) - v3) ((q5.2 157 4) - v5) q5).bind fun q7 => (if 0 < q7 then some (.inl (v7, (q5.2 157 3), (q5.2 157 4), (v7 + (1 : Int32)), q5)) else some (.inl (v2, v3, v5, (v7 + (1 : Int32)), q5)))))))))
theorem tb_Mo_nearest_13 {Lx : Nat} (v1 : Int32)  (v2 : Int32) (v3 : Int64) (v5 : Int64) (v7 : Int32) (g : M2) {b : (Int32 × Int64 × Int64 × Int32 × M2) ⊕ (Int32 × M2)} {o : Option Value × M2} (h : b_Mo_nearest_13 v1 v2 v3 v5 v7 g = some b) (hb : Sum.elim (fun s => Ev Lx 177 cd_177 13 [some (.ref 157), some (.int v1), some (.int s.1), some (.long s.2.1), none, some (.long s.2.2.1), none, some (.int s.2.2.2.1)] [] s.2.2.2.2 o) (fun e => Ev Lx 177 cd_177 54 [none, none, some (.int e.1)] [] e.2 o) b) : Ev Lx 177 cd_177 13 [some (.ref 157), some (.int v1), some (.int v2), some (.long v3), none, some (.long v5), none, some (.int v7)] [] g o := by
  unfold b_Mo_nearest_13 at h
  refine ev_rn (n := 2) (i2 := 15) (L2 := [some (.ref 157), some (.int v1), some (.int v2), some (.long v3), none, some (.long v5), none, some (.int v7)]) (st2 := [.int (12 : Int32), .int v7]) (g2 := g) cdE_177 rfl ?_
  by_cases hc2 : (12 : Int32) ≤ v7
  · rw [if_pos hc2] at h
    refine ev_ift cdE_177 rfl (cn_t hc2) ?_
    cases h
    exact ev_wk (L := [none, none, some (.int v2)]) hb ⟨rfl, trivial⟩
  · rw [if_neg hc2] at h
    refine ev_iff rfl (cn_f hc2) ?_
    refine ev_rn (n := 2) (i2 := 18) (L2 := [some (.ref 157), some (.int v1), some (.int v2), some (.long v3), none, some (.long v5), none, some (.int v7)]) (st2 := [.int v1, .ref 157]) (g2 := g) cdE_177 rfl ?_
    obtain ⟨q3, hq3, h⟩ := Option.bind_eq_some_iff.mp h
    refine ev_call rfl cdE_176 rfl rfl rfl (e_Mo_twinsOf v1  g hq3) ?_
    refine ev_rn (n := 5) (i2 := 24) (L2 := [some (.ref 157), some (.int v1), some (.int v2), some (.long v3), none, some (.long v5), none, some (.int v7)]) (st2 := [.int (1 : Int32), .int ((q3 >>> (v7 &&& 31)) &&& (1 : Int32))]) (g2 := g) cdE_177 rfl ?_
    by_cases hc4 : ((q3 >>> (v7 &&& 31)) &&& (1 : Int32)) = (1 : Int32)
    · rw [if_pos hc4] at h
      refine ev_iff rfl (cn_f (fun q => q hc4)) ?_
      refine ev_rn (n := 3) (i2 := 13) (L2 := [some (.ref 157), some (.int v1), some (.int v2), some (.long v3), none, some (.long v5), none, some (.int (v7 + (1 : Int32)))]) (st2 := []) (g2 := g) cdE_177 rfl ?_
      cases h
      exact ev_wk (L := [some (.ref 157), some (.int v1), some (.int v2), some (.long v3), none, some (.long v5), none, some (.int (v7 + (1 : Int32)))]) hb ⟨rfl, ⟨rfl, ⟨rfl, ⟨rfl, ⟨rfl, ⟨rfl, trivial⟩⟩⟩⟩⟩⟩
    · rw [if_neg hc4] at h
      refine ev_ift cdE_177 rfl (cn_t hc4) ?_
      refine ev_rn (n := 3) (i2 := 29) (L2 := [some (.ref 157), some (.int v1), some (.int v2), some (.long v3), none, some (.long v5), none, some (.int v7)]) (st2 := [.int v7, .int v1, .ref 157]) (g2 := g) cdE_177 rfl ?_
      obtain ⟨q5, hq5, h⟩ := Option.bind_eq_some_iff.mp h
      refine ev_call rfl cdE_169 rfl rfl rfl (e_Mo_laysLikeness v1 v7  g hq5) ?_
      refine ev_rn (n := 2) (i2 := 32) (L2 := [some (.ref 157), some (.int v1), some (.int v2), some (.long v3), none, some (.long v5), none, some (.int v7)]) (st2 := [.int (-1 : Int32), .int v2]) (g2 := q5) cdE_177 rfl ?_
      by_cases hc6 : v2 = (-1 : Int32)
      · rw [if_pos hc6] at h
        refine ev_ift cdE_177 rfl (cn_t hc6) ?_
        refine ev_rn (n := 5) (i2 := 49) (L2 := [some (.ref 157), some (.int v1), some (.int v7), some (.long (q5.2 157 3)), none, some (.long v5), none, some (.int v7)]) (st2 := []) (g2 := q5) cdE_177 rfl ?_
        refine ev_rn (n := 3) (i2 := 52) (L2 := [some (.ref 157), some (.int v1), some (.int v7), some (.long (q5.2 157 3)), none, some (.long (q5.2 157 4)), none, some (.int v7)]) (st2 := []) (g2 := q5) cdE_177 rfl ?_
        refine ev_rn (n := 2) (i2 := 13) (L2 := [some (.ref 157), some (.int v1), some (.int v7), some (.long (q5.2 157 3)), none, some (.long (q5.2 157 4)), none, some (.int (v7 + (1 : Int32)))]) (st2 := []) (g2 := q5) cdE_177 rfl ?_
        cases h
        exact ev_wk (L := [some (.ref 157), some (.int v1), some (.int v7), some (.long (q5.2 157 3)), none, some (.long (q5.2 157 4)), none, some (.int (v7 + (1 : Int32)))]) hb ⟨rfl, ⟨rfl, ⟨rfl, ⟨rfl, ⟨rfl, ⟨rfl, trivial⟩⟩⟩⟩⟩⟩
      · rw [if_neg hc6] at h
        refine ev_iff rfl (cn_f hc6) ?_
        refine ev_rn (n := 8) (i2 := 41) (L2 := [some (.ref 157), some (.int v1), some (.int v2), some (.long v3), none, some (.long v5), none, some (.int v7)]) (st2 := [.long ((q5.2 157 4) - v5), .long ((q5.2 157 3) - v3)]) (g2 := q5) cdE_177 rfl ?_
        obtain ⟨q7, hq7, h⟩ := Option.bind_eq_some_iff.mp h
        refine ev_call rfl cdE_148 rfl rfl rfl (e_Mo_signOf ((q5.2 157 3) - v3) ((q5.2 157 4) - v5)  q5 hq7) ?_
        by_cases hc8 : 0 < q7
        · rw [if_pos hc8] at h
          refine ev_zft cdE_177 rfl (cn_t hc8) ?_
          refine ev_rn (n := 5) (i2 := 49) (L2 := [some (.ref 157), some (.int v1), some (.int v7), some (.long (q5.2 157 3)), none, some (.long v5), none, some (.int v7)]) (st2 := []) (g2 := q5) cdE_177 rfl ?_
          refine ev_rn (n := 3) (i2 := 52) (L2 := [some (.ref 157), some (.int v1), some (.int v7), some (.long (q5.2 157 3)), none, some (.long (q5.2 157 4)), none, some (.int v7)]) (st2 := []) (g2 := q5) cdE_177 rfl ?_
          refine ev_rn (n := 2) (i2 := 13) (L2 := [some (.ref 157), some (.int v1), some (.int v7), some (.long (q5.2 157 3)), none, some (.long (q5.2 157 4)), none, some (.int (v7 + (1 : Int32)))]) (st2 := []) (g2 := q5) cdE_177 rfl ?_
          cases h
          exact ev_wk (L := [some (.ref 157), some (.int v1), some (.int v7), some (.long (q5.2 157 3)), none, some (.long (q5.2 157 4)), none, some (.int (v7 + (1 : Int32)))]) hb ⟨rfl, ⟨rfl, ⟨rfl, ⟨rfl, ⟨rfl, ⟨rfl, trivial⟩⟩⟩⟩⟩⟩
        · rw [if_neg hc8] at h
          refine ev_zff rfl (cn_f hc8) ?_
          refine ev_rn (n := 3) (i2 := 13) (L2 := [some (.ref 157), some (.int v1), some (.int v2), some (.long v3), none, some (.long v5), none, some (.int (v7 + (1 : Int32)))]) (st2 := []) (g2 := q5) cdE_177 rfl ?_
          cases h
          exact ev_wk (L := [some (.ref 157), some (.int v1), some (.int v2), some (.long v3), none, some (.long v5), none, some (.int (v7 + (1 : Int32)))]) hb ⟨rfl, ⟨rfl, ⟨rfl, ⟨rfl, ⟨rfl, ⟨rfl, trivial⟩⟩⟩⟩⟩⟩
def f_Mo_nearest (p0 : Int32) (g : M2) : Option (Int32 × M2) := (if (f_Mo_isDirection p0 g) = 0 then some ((-2 : Int32), g) else ((lp (fun s => b_Mo_nearest_13 p0 s.1 s.2.1 s.2.2.1 s.2.2.2.1 s.2.2.2.2) 5000 ((-1 : Int32), (0 : Int64), (0 : Int64), (0 : Int32), g)).bind fun e9 => some (e9.1, e9.2)))
theorem e_Mo_nearest {Lx : Nat} (p0 : Int32)  (g : M2) {b : (Int32 × M2)} (h : f_Mo_nearest p0 g = some b) : Ev Lx 177 cd_177 0 [some (.ref 157), some (.int p0)] [] g (some (.int b.1), b.2) := by
  unfold f_Mo_nearest at h
  refine ev_rn (n := 1) (i2 := 1) (L2 := [some (.ref 157), some (.int p0)]) (st2 := [.int p0]) (g2 := g) cdE_177 rfl ?_
  refine ev_call rfl cdE_73 rfl rfl rfl (e_Mo_isDirection p0  g rfl) ?_
  by_cases hc1 : (f_Mo_isDirection p0 g) = 0
  · rw [if_pos hc1] at h
    refine ev_zff rfl (cn_f (fun q => q hc1)) ?_
    refine ev_rn (n := 1) (i2 := 4) (L2 := [some (.ref 157), some (.int p0)]) (st2 := [.int (-2 : Int32)]) (g2 := g) cdE_177 rfl ?_
    cases h
    exact ev_ret rfl rfl
  · rw [if_neg hc1] at h
    refine ev_zft cdE_177 rfl (cn_t hc1) ?_
    refine ev_rn (n := 4) (i2 := 9) (L2 := [some (.ref 157), some (.int p0), some (.int (-1 : Int32)), some (.long (0 : Int64)), none]) (st2 := []) (g2 := g) cdE_177 rfl ?_
    refine ev_rn (n := 2) (i2 := 11) (L2 := [some (.ref 157), some (.int p0), some (.int (-1 : Int32)), some (.long (0 : Int64)), none, some (.long (0 : Int64)), none]) (st2 := []) (g2 := g) cdE_177 rfl ?_
    refine ev_rn (n := 2) (i2 := 13) (L2 := [some (.ref 157), some (.int p0), some (.int (-1 : Int32)), some (.long (0 : Int64)), none, some (.long (0 : Int64)), none, some (.int (0 : Int32))]) (st2 := []) (g2 := g) cdE_177 rfl ?_
    obtain ⟨e9, he9, h⟩ := Option.bind_eq_some_iff.mp h
    have hX10 : Ev Lx 177 cd_177 54 [none, none, some (.int e9.1)] [] e9.2 (some (.int b.1), b.2) := by
      refine ev_rn (n := 1) (i2 := 55) (L2 := [none, none, some (.int e9.1)]) (st2 := [.int e9.1]) (g2 := e9.2) cdE_177 rfl ?_
      cases h
      exact ev_ret rfl rfl
    exact ev_wk (L := [some (.ref 157), some (.int p0), some (.int (-1 : Int32)), some (.long (0 : Int64)), none, some (.long (0 : Int64)), none, some (.int (0 : Int32))]) (lp_ind (P := (fun (s : (Int32 × Int64 × Int64 × Int32 × M2)) => Ev Lx 177 cd_177 13 [some (.ref 157), some (.int p0), some (.int s.1), some (.long s.2.1), none, some (.long s.2.2.1), none, some (.int s.2.2.2.1)] [] s.2.2.2.2 (some (.int b.1), b.2))) (fun s s2 hs hP => tb_Mo_nearest_13 p0  s.1 s.2.1 s.2.2.1 s.2.2.2.1 s.2.2.2.2 (b := .inl s2) hs hP) (fun s hs => tb_Mo_nearest_13 p0  s.1 s.2.1 s.2.2.1 s.2.2.2.1 s.2.2.2.2 (b := .inr e9) hs hX10) _ _ he9) ⟨rfl, ⟨rfl, ⟨rfl, ⟨rfl, ⟨rfl, ⟨rfl, trivial⟩⟩⟩⟩⟩⟩
def b_Da_quiet_12  (v1 : Int32) (v2 : Int32) (g : M2) : Option ((Int32 × Int32) ⊕ Int32) := (if (12 : Int32) ≤ v2 then some (.inr v1) else (if inb v2 12 then (if (f_Nu_isZero (55 + 1 + v2.toNatClampNeg) g) = 0 then some (.inl (v1, (v2 + (1 : Int32)))) else some (.inl ((v1 + (1 : Int32)), (v2 + (1 : Int32))))) else none))
theorem tb_Da_quiet_12 {Lx : Nat}   (v1 : Int32) (v2 : Int32) (g : M2) {b : (Int32 × Int32) ⊕ Int32} {o : Option Value × M2} (h : b_Da_quiet_12 v1 v2 g = some b) (hb : Sum.elim (fun s => Ev Lx 178 cd_178 12 [some (.ref 0), some (.int s.1), some (.int s.2)] [] g o) (fun e => Ev Lx 178 cd_178 25 [none, some (.int e)] [] g o) b) : Ev Lx 178 cd_178 12 [some (.ref 0), some (.int v1), some (.int v2)] [] g o := by
  unfold b_Da_quiet_12 at h
  refine ev_rn (n := 2) (i2 := 14) (L2 := [some (.ref 0), some (.int v1), some (.int v2)]) (st2 := [.int (12 : Int32), .int v2]) (g2 := g) cdE_178 rfl ?_
  by_cases hc3 : (12 : Int32) ≤ v2
  · rw [if_pos hc3] at h
    refine ev_ift cdE_178 rfl (cn_t hc3) ?_
    cases h
    exact ev_wk (L := [none, some (.int v1)]) hb ⟨rfl, trivial⟩
  · rw [if_neg hc3] at h
    refine ev_iff rfl (cn_f hc3) ?_
    refine ev_rn (n := 4) (i2 := 19) (L2 := [some (.ref 0), some (.int v1), some (.int v2)]) (st2 := [.int v2, .ref 55]) (g2 := g) cdE_178 rfl ?_
    by_cases hi4 : inb v2 12
    · rw [if_pos hi4] at h
      refine ev_aaload (v := .ref (55 + 1 + v2.toNatClampNeg)) rfl (kd_of (na_at (na_55))) (by decide) hi4 (na_rf (w := 55) hi4.2) ?_
      refine ev_call rfl cdE_80 (cokV rfl rfl (na_el (na_55) hi4.2) rfl) rfl rfl (e_Nu_isZero (55 + 1 + v2.toNatClampNeg) (na_el (na_55) hi4.2) g rfl) ?_
      by_cases hc5 : (f_Nu_isZero (55 + 1 + v2.toNatClampNeg) g) = 0
      · rw [if_pos hc5] at h
        refine ev_zft cdE_178 rfl (cn_t hc5) ?_
        refine ev_rn (n := 2) (i2 := 12) (L2 := [some (.ref 0), some (.int v1), some (.int (v2 + (1 : Int32)))]) (st2 := []) (g2 := g) cdE_178 rfl ?_
        cases h
        exact ev_wk (L := [some (.ref 0), some (.int v1), some (.int (v2 + (1 : Int32)))]) hb ⟨rfl, ⟨rfl, ⟨rfl, trivial⟩⟩⟩
      · rw [if_neg hc5] at h
        refine ev_zff rfl (cn_f hc5) ?_
        refine ev_rn (n := 2) (i2 := 24) (L2 := [some (.ref 0), some (.int (v1 + (1 : Int32))), some (.int (v2 + (1 : Int32)))]) (st2 := []) (g2 := g) cdE_178 rfl ?_
        refine ev_rn (n := 1) (i2 := 12) (L2 := [some (.ref 0), some (.int (v1 + (1 : Int32))), some (.int (v2 + (1 : Int32)))]) (st2 := []) (g2 := g) cdE_178 rfl ?_
        cases h
        exact ev_wk (L := [some (.ref 0), some (.int (v1 + (1 : Int32))), some (.int (v2 + (1 : Int32)))]) hb ⟨rfl, ⟨rfl, ⟨rfl, trivial⟩⟩⟩
    · rw [if_neg hi4] at h
      cases h
def f_Da_quiet  (g : M2) : Option (Int32 × M2) := ((f_Da_refresh g).bind fun q1 => (if (q1.1 6 13) = 0 then some ((-2 : Int32), q1) else ((lp (fun s => b_Da_quiet_12  s.1 s.2 q1) 5000 ((0 : Int32), (0 : Int32))).bind fun e6 => some (e6, q1))))
theorem e_Da_quiet {Lx : Nat}   (g : M2) {b : (Int32 × M2)} (h : f_Da_quiet  g = some b) : Ev Lx 178 cd_178 0 [some (.ref 0)] [] g (some (.int b.1), b.2) := by
  unfold f_Da_quiet at h
  refine ev_rn (n := 1) (i2 := 1) (L2 := [some (.ref 0)]) (st2 := [.ref 0]) (g2 := g) cdE_178 rfl ?_
  obtain ⟨q1, hq1, h⟩ := Option.bind_eq_some_iff.mp h
  refine ev_call rfl cdE_100 rfl rfl rfl (e_Da_refresh   g hq1) ?_
  refine ev_rn (n := 3) (i2 := 5) (L2 := [some (.ref 0)]) (st2 := [.int (q1.1 6 13)]) (g2 := q1) cdE_178 rfl ?_
  by_cases hc2 : (q1.1 6 13) = 0
  · rw [if_pos hc2] at h
    refine ev_zff rfl (cn_f (fun q => q hc2)) ?_
    refine ev_rn (n := 1) (i2 := 7) (L2 := [some (.ref 0)]) (st2 := [.int (-2 : Int32)]) (g2 := q1) cdE_178 rfl ?_
    cases h
    exact ev_ret rfl rfl
  · rw [if_neg hc2] at h
    refine ev_zft cdE_178 rfl (cn_t hc2) ?_
    refine ev_rn (n := 4) (i2 := 12) (L2 := [some (.ref 0), some (.int (0 : Int32)), some (.int (0 : Int32))]) (st2 := []) (g2 := q1) cdE_178 rfl ?_
    obtain ⟨e6, he6, h⟩ := Option.bind_eq_some_iff.mp h
    have hX7 : Ev Lx 178 cd_178 25 [none, some (.int e6)] [] q1 (some (.int b.1), b.2) := by
      refine ev_rn (n := 1) (i2 := 26) (L2 := [none, some (.int e6)]) (st2 := [.int e6]) (g2 := q1) cdE_178 rfl ?_
      cases h
      exact ev_ret rfl rfl
    exact ev_wk (L := [some (.ref 0), some (.int (0 : Int32)), some (.int (0 : Int32))]) (lp_ind (P := (fun (s : (Int32 × Int32)) => Ev Lx 178 cd_178 12 [some (.ref 0), some (.int s.1), some (.int s.2)] [] q1 (some (.int b.1), b.2))) (fun s s2 hs hP => tb_Da_quiet_12   s.1 s.2 q1 (b := .inl s2) hs hP) (fun s hs => tb_Da_quiet_12   s.1 s.2 q1 (b := .inr e6) hs hX7) _ _ he6) ⟨rfl, ⟨rfl, ⟨rfl, trivial⟩⟩⟩
def b_Mo_quiet_9  (v1 : Int32) (v2 : Int32) (g : M2) : Option ((Int32 × Int32) ⊕ Int32) := (if (12 : Int32) ≤ v2 then some (.inr v1) else ((f_Mo_isNought ((67 : Int32) + v2) g).bind fun q4 => (if q4 = 0 then some (.inl ((v1 + (0 : Int32)), (v2 + (1 : Int32)))) else some (.inl ((v1 + (1 : Int32)), (v2 + (1 : Int32)))))))
theorem tb_Mo_quiet_9 {Lx : Nat}   (v1 : Int32) (v2 : Int32) (g : M2) {b : (Int32 × Int32) ⊕ Int32} {o : Option Value × M2} (h : b_Mo_quiet_9 v1 v2 g = some b) (hb : Sum.elim (fun s => Ev Lx 179 cd_179 9 [some (.ref 157), some (.int s.1), some (.int s.2)] [] g o) (fun e => Ev Lx 179 cd_179 26 [none, some (.int e)] [] g o) b) : Ev Lx 179 cd_179 9 [some (.ref 157), some (.int v1), some (.int v2)] [] g o := by
  unfold b_Mo_quiet_9 at h
  refine ev_rn (n := 2) (i2 := 11) (L2 := [some (.ref 157), some (.int v1), some (.int v2)]) (st2 := [.int (12 : Int32), .int v2]) (g2 := g) cdE_179 rfl ?_
  by_cases hc3 : (12 : Int32) ≤ v2
  · rw [if_pos hc3] at h
    refine ev_ift cdE_179 rfl (cn_t hc3) ?_
    cases h
    exact ev_wk (L := [none, some (.int v1)]) hb ⟨rfl, trivial⟩
  · rw [if_neg hc3] at h
    refine ev_iff rfl (cn_f hc3) ?_
    refine ev_rn (n := 5) (i2 := 17) (L2 := [some (.ref 157), some (.int v1), some (.int v2)]) (st2 := [.int ((67 : Int32) + v2), .ref 157, .int v1]) (g2 := g) cdE_179 rfl ?_
    obtain ⟨q4, hq4, h⟩ := Option.bind_eq_some_iff.mp h
    refine ev_call rfl cdE_111 rfl rfl rfl (e_Mo_isNought ((67 : Int32) + v2)  g hq4) ?_
    by_cases hc5 : q4 = 0
    · rw [if_pos hc5] at h
      refine ev_zft cdE_179 rfl (cn_t hc5) ?_
      refine ev_rn (n := 4) (i2 := 25) (L2 := [some (.ref 157), some (.int (v1 + (0 : Int32))), some (.int (v2 + (1 : Int32)))]) (st2 := []) (g2 := g) cdE_179 rfl ?_
      refine ev_rn (n := 1) (i2 := 9) (L2 := [some (.ref 157), some (.int (v1 + (0 : Int32))), some (.int (v2 + (1 : Int32)))]) (st2 := []) (g2 := g) cdE_179 rfl ?_
      cases h
      exact ev_wk (L := [some (.ref 157), some (.int (v1 + (0 : Int32))), some (.int (v2 + (1 : Int32)))]) hb ⟨rfl, ⟨rfl, ⟨rfl, trivial⟩⟩⟩
    · rw [if_neg hc5] at h
      refine ev_zff rfl (cn_f hc5) ?_
      refine ev_rn (n := 5) (i2 := 25) (L2 := [some (.ref 157), some (.int (v1 + (1 : Int32))), some (.int (v2 + (1 : Int32)))]) (st2 := []) (g2 := g) cdE_179 rfl ?_
      refine ev_rn (n := 1) (i2 := 9) (L2 := [some (.ref 157), some (.int (v1 + (1 : Int32))), some (.int (v2 + (1 : Int32)))]) (st2 := []) (g2 := g) cdE_179 rfl ?_
      cases h
      exact ev_wk (L := [some (.ref 157), some (.int (v1 + (1 : Int32))), some (.int (v2 + (1 : Int32)))]) hb ⟨rfl, ⟨rfl, ⟨rfl, trivial⟩⟩⟩
def f_Mo_quiet  (g : M2) : Option (Int32 × M2) := ((f_Mo_canNow g).bind fun q1 => (if q1.1 = 0 then some ((-2 : Int32), q1.2) else ((lp (fun s => b_Mo_quiet_9  s.1 s.2 q1.2) 5000 ((0 : Int32), (0 : Int32))).bind fun e6 => some (e6, q1.2))))
theorem e_Mo_quiet {Lx : Nat}   (g : M2) {b : (Int32 × M2)} (h : f_Mo_quiet  g = some b) : Ev Lx 179 cd_179 0 [some (.ref 157)] [] g (some (.int b.1), b.2) := by
  unfold f_Mo_quiet at h
  refine ev_rn (n := 1) (i2 := 1) (L2 := [some (.ref 157)]) (st2 := [.ref 157]) (g2 := g) cdE_179 rfl ?_
  obtain ⟨q1, hq1, h⟩ := Option.bind_eq_some_iff.mp h
  refine ev_call rfl cdE_118 rfl rfl rfl (e_Mo_canNow   g hq1) ?_
  by_cases hc2 : q1.1 = 0
  · rw [if_pos hc2] at h
    refine ev_zff rfl (cn_f (fun q => q hc2)) ?_
    refine ev_rn (n := 1) (i2 := 4) (L2 := [some (.ref 157)]) (st2 := [.int (-2 : Int32)]) (g2 := q1.2) cdE_179 rfl ?_
    cases h
    exact ev_ret rfl rfl
  · rw [if_neg hc2] at h
    refine ev_zft cdE_179 rfl (cn_t hc2) ?_
    refine ev_rn (n := 4) (i2 := 9) (L2 := [some (.ref 157), some (.int (0 : Int32)), some (.int (0 : Int32))]) (st2 := []) (g2 := q1.2) cdE_179 rfl ?_
    obtain ⟨e6, he6, h⟩ := Option.bind_eq_some_iff.mp h
    have hX7 : Ev Lx 179 cd_179 26 [none, some (.int e6)] [] q1.2 (some (.int b.1), b.2) := by
      refine ev_rn (n := 1) (i2 := 27) (L2 := [none, some (.int e6)]) (st2 := [.int e6]) (g2 := q1.2) cdE_179 rfl ?_
      cases h
      exact ev_ret rfl rfl
    exact ev_wk (L := [some (.ref 157), some (.int (0 : Int32)), some (.int (0 : Int32))]) (lp_ind (P := (fun (s : (Int32 × Int32)) => Ev Lx 179 cd_179 9 [some (.ref 157), some (.int s.1), some (.int s.2)] [] q1.2 (some (.int b.1), b.2))) (fun s s2 hs hP => tb_Mo_quiet_9   s.1 s.2 q1.2 (b := .inl s2) hs hP) (fun s hs => tb_Mo_quiet_9   s.1 s.2 q1.2 (b := .inr e6) hs hX7) _ _ he6) ⟨rfl, ⟨rfl, ⟨rfl, trivial⟩⟩⟩
def f_Pl_asideBits (a0 : Nat) (g : M2) : Option (Int32) := ((f_Pl_wishBits a0 g).bind fun q1 => (if (g.1 a0 4) = (-1 : Int32) then some ((4095 : Int32) &&& (q1 ^^^ (-1 : Int32))) else ((f_Pl_twinBits a0 (g.1 a0 4) g).bind fun q3 => some ((4095 : Int32) &&& ((q1 ||| q3) ^^^ (-1 : Int32))))))
theorem e_Pl_asideBits {Lx : Nat} (a0 : Nat) (ha0 : IsPlan a0) (g : M2) {b : Int32} (h : f_Pl_asideBits a0 g = some b) : Ev Lx 180 cd_180 0 [some (.ref a0)] [] g (some (.int b), g) := by
  unfold f_Pl_asideBits at h
  refine ev_rn (n := 1) (i2 := 1) (L2 := [some (.ref a0)]) (st2 := [.ref a0]) (g2 := g) cdE_180 rfl ?_
  obtain ⟨q1, hq1, h⟩ := Option.bind_eq_some_iff.mp h
  refine ev_call rfl cdE_32 (cokV rfl rfl (pl_at ha0) rfl) rfl rfl (e_Pl_wishBits a0 ha0 g hq1) ?_
  refine ev_rn (n := 2) (i2 := 4) (L2 := [some (.ref a0), some (.int q1)]) (st2 := [.ref a0]) (g2 := g) cdE_180 rfl ?_
  refine ev_gf (v := .int (g.1 a0 4)) rfl (pl_at ha0) (by decide) rfl ?_
  refine ev_rn (n := 1) (i2 := 6) (L2 := [some (.ref a0), some (.int q1)]) (st2 := [.int (-1 : Int32), .int (g.1 a0 4)]) (g2 := g) cdE_180 rfl ?_
  by_cases hc2 : (g.1 a0 4) = (-1 : Int32)
  · rw [if_pos hc2] at h
    refine ev_ift cdE_180 rfl (cn_t hc2) ?_
    refine ev_rn (n := 5) (i2 := 19) (L2 := [some (.ref a0), some (.int q1)]) (st2 := [.int ((4095 : Int32) &&& (q1 ^^^ (-1 : Int32)))]) (g2 := g) cdE_180 rfl ?_
    cases h
    exact ev_ret rfl rfl
  · rw [if_neg hc2] at h
    refine ev_iff rfl (cn_f hc2) ?_
    refine ev_rn (n := 3) (i2 := 10) (L2 := [some (.ref a0), some (.int q1)]) (st2 := [.ref a0, .ref a0, .int q1]) (g2 := g) cdE_180 rfl ?_
    refine ev_gf (v := .int (g.1 a0 4)) rfl (pl_at ha0) (by decide) rfl ?_
    obtain ⟨q3, hq3, h⟩ := Option.bind_eq_some_iff.mp h
    refine ev_call rfl cdE_172 (cokV rfl rfl (pl_at ha0) rfl) rfl rfl (e_Pl_twinBits a0 (g.1 a0 4) ha0 g hq3) ?_
    refine ev_rn (n := 7) (i2 := 19) (L2 := [some (.ref a0), some (.int (q1 ||| q3))]) (st2 := [.int ((4095 : Int32) &&& ((q1 ||| q3) ^^^ (-1 : Int32)))]) (g2 := g) cdE_180 rfl ?_
    cases h
    exact ev_ret rfl rfl
def b_Da_side_18 (v1 : Int32) (v2 : Int32) (g : M2) : Option ((Int32 × M2) ⊕ M2) := (if (12 : Int32) ≤ v2 then some (.inr g) else (if ((v1 >>> (v2 &&& 31)) &&& (1 : Int32)) = 0 then some (.inl ((v2 + (1 : Int32)), g)) else (if inb v2 12 then ((f_Gr_offer (55 + 1 + v2.toNatClampNeg) v2 g).bind fun q8 => some (.inl ((v2 + (1 : Int32)), q8))) else none)))
theorem tb_Da_side_18 {Lx : Nat} (v1 : Int32)  (v2 : Int32) (g : M2) {b : (Int32 × M2) ⊕ M2} {o : Option Value × M2} (h : b_Da_side_18 v1 v2 g = some b) (hb : Sum.elim (fun s => Ev Lx 181 cd_181 18 [some (.ref 0), some (.int v1), some (.int s.1)] [] s.2 o) (fun e => Ev Lx 181 cd_181 38 [some (.ref 0)] [] e o) b) : Ev Lx 181 cd_181 18 [some (.ref 0), some (.int v1), some (.int v2)] [] g o := by
  unfold b_Da_side_18 at h
  refine ev_rn (n := 2) (i2 := 20) (L2 := [some (.ref 0), some (.int v1), some (.int v2)]) (st2 := [.int (12 : Int32), .int v2]) (g2 := g) cdE_181 rfl ?_
  by_cases hc5 : (12 : Int32) ≤ v2
  · rw [if_pos hc5] at h
    refine ev_ift cdE_181 rfl (cn_t hc5) ?_
    cases h
    exact ev_wk (L := [some (.ref 0)]) hb ⟨rfl, trivial⟩
  · rw [if_neg hc5] at h
    refine ev_iff rfl (cn_f hc5) ?_
    refine ev_rn (n := 5) (i2 := 26) (L2 := [some (.ref 0), some (.int v1), some (.int v2)]) (st2 := [.int ((v1 >>> (v2 &&& 31)) &&& (1 : Int32))]) (g2 := g) cdE_181 rfl ?_
    by_cases hc6 : ((v1 >>> (v2 &&& 31)) &&& (1 : Int32)) = 0
    · rw [if_pos hc6] at h
      refine ev_zft cdE_181 rfl (cn_t hc6) ?_
      refine ev_rn (n := 2) (i2 := 18) (L2 := [some (.ref 0), some (.int v1), some (.int (v2 + (1 : Int32)))]) (st2 := []) (g2 := g) cdE_181 rfl ?_
      cases h
      exact ev_wk (L := [some (.ref 0), some (.int v1), some (.int (v2 + (1 : Int32)))]) hb ⟨rfl, ⟨rfl, ⟨rfl, trivial⟩⟩⟩
    · rw [if_neg hc6] at h
      refine ev_zff rfl (cn_f hc6) ?_
      refine ev_rn (n := 6) (i2 := 33) (L2 := [some (.ref 0), some (.int v1), some (.int v2)]) (st2 := [.int v2, .ref 55, .ref 152]) (g2 := g) cdE_181 rfl ?_
      by_cases hi7 : inb v2 12
      · rw [if_pos hi7] at h
        refine ev_aaload (v := .ref (55 + 1 + v2.toNatClampNeg)) rfl (kd_of (na_at (na_55))) (by decide) hi7 (na_rf (w := 55) hi7.2) ?_
        refine ev_rn (n := 1) (i2 := 35) (L2 := [some (.ref 0), some (.int v1), some (.int v2)]) (st2 := [.int v2, .ref (55 + 1 + v2.toNatClampNeg), .ref 152]) (g2 := g) cdE_181 rfl ?_
        obtain ⟨q8, hq8, h⟩ := Option.bind_eq_some_iff.mp h
        refine ev_call rfl cdE_174 rfl rfl rfl (e_Gr_offer (55 + 1 + v2.toNatClampNeg) v2 (na_el (na_55) hi7.2) g hq8) ?_
        refine ev_rn (n := 2) (i2 := 18) (L2 := [some (.ref 0), some (.int v1), some (.int (v2 + (1 : Int32)))]) (st2 := []) (g2 := q8) cdE_181 rfl ?_
        cases h
        exact ev_wk (L := [some (.ref 0), some (.int v1), some (.int (v2 + (1 : Int32)))]) hb ⟨rfl, ⟨rfl, ⟨rfl, trivial⟩⟩⟩
      · rw [if_neg hi7] at h
        cases h
def f_Da_side  (g : M2) : Option (Int32 × M2) := ((f_Da_refresh g).bind fun q1 => (if (q1.1 6 13) = 0 then some ((-2 : Int32), q1) else ((f_Pl_asideBits 7 q1).bind fun q3 => ((f_Gr_clear q1).bind fun q4 => ((lp (fun s => b_Da_side_18 q3 s.1 s.2) 5000 ((0 : Int32), q4)).bind fun e9 => some ((e9.1 152 0), e9))))))
theorem e_Da_side {Lx : Nat}   (g : M2) {b : (Int32 × M2)} (h : f_Da_side  g = some b) : Ev Lx 181 cd_181 0 [some (.ref 0)] [] g (some (.int b.1), b.2) := by
  unfold f_Da_side at h
  refine ev_rn (n := 1) (i2 := 1) (L2 := [some (.ref 0)]) (st2 := [.ref 0]) (g2 := g) cdE_181 rfl ?_
  obtain ⟨q1, hq1, h⟩ := Option.bind_eq_some_iff.mp h
  refine ev_call rfl cdE_100 rfl rfl rfl (e_Da_refresh   g hq1) ?_
  refine ev_rn (n := 3) (i2 := 5) (L2 := [some (.ref 0)]) (st2 := [.int (q1.1 6 13)]) (g2 := q1) cdE_181 rfl ?_
  by_cases hc2 : (q1.1 6 13) = 0
  · rw [if_pos hc2] at h
    refine ev_zff rfl (cn_f (fun q => q hc2)) ?_
    refine ev_rn (n := 1) (i2 := 7) (L2 := [some (.ref 0)]) (st2 := [.int (-2 : Int32)]) (g2 := q1) cdE_181 rfl ?_
    cases h
    exact ev_ret rfl rfl
  · rw [if_neg hc2] at h
    refine ev_zft cdE_181 rfl (cn_t hc2) ?_
    refine ev_rn (n := 3) (i2 := 11) (L2 := [some (.ref 0)]) (st2 := [.ref 7]) (g2 := q1) cdE_181 rfl ?_
    obtain ⟨q3, hq3, h⟩ := Option.bind_eq_some_iff.mp h
    refine ev_call rfl cdE_180 rfl rfl rfl (e_Pl_asideBits 7 (by decide) q1 hq3) ?_
    refine ev_rn (n := 3) (i2 := 15) (L2 := [some (.ref 0), some (.int q3)]) (st2 := [.ref 152]) (g2 := q1) cdE_181 rfl ?_
    obtain ⟨q4, hq4, h⟩ := Option.bind_eq_some_iff.mp h
    refine ev_call rfl cdE_173 rfl rfl rfl (e_Gr_clear   q1 hq4) ?_
    refine ev_rn (n := 2) (i2 := 18) (L2 := [some (.ref 0), some (.int q3), some (.int (0 : Int32))]) (st2 := []) (g2 := q4) cdE_181 rfl ?_
    obtain ⟨e9, he9, h⟩ := Option.bind_eq_some_iff.mp h
    have hX10 : Ev Lx 181 cd_181 38 [some (.ref 0)] [] e9 (some (.int b.1), b.2) := by
      refine ev_rn (n := 3) (i2 := 41) (L2 := [some (.ref 0)]) (st2 := [.int (e9.1 152 0)]) (g2 := e9) cdE_181 rfl ?_
      cases h
      exact ev_ret rfl rfl
    exact ev_wk (L := [some (.ref 0), some (.int q3), some (.int (0 : Int32))]) (lp_ind (P := (fun (s : (Int32 × M2)) => Ev Lx 181 cd_181 18 [some (.ref 0), some (.int q3), some (.int s.1)] [] s.2 (some (.int b.1), b.2))) (fun s s2 hs hP => tb_Da_side_18 q3  s.1 s.2 (b := .inl s2) hs hP) (fun s hs => tb_Da_side_18 q3  s.1 s.2 (b := .inr e9) hs hX10) _ _ he9) ⟨rfl, ⟨rfl, ⟨rfl, trivial⟩⟩⟩
def b_Mo_deafAt_2 (v1 : Int32) (v2 : Int32) (g : M2) : Option (Int32 ⊕ (Unit ⊕ Int32)) := (if (g.1 160 13) ≤ v2 then some (.inr (.inl ())) else (if inb ((14 : Int32) + v2) 19 then (if (g.1 160 ((14 : Int32) + v2).toNatClampNeg) = v1 then some (.inr (.inr v2)) else some (.inl (v2 + (1 : Int32)))) else none))
theorem tb_Mo_deafAt_2 {Lx : Nat} (v1 : Int32)  (v2 : Int32) (g : M2) {b : Int32 ⊕ (Unit ⊕ Int32)} {o : Option Value × M2} (h : b_Mo_deafAt_2 v1 v2 g = some b) (hb : Sum.elim (fun s => Ev Lx 182 cd_182 2 [some (.ref 157), some (.int v1), some (.int s)] [] g o) (Sum.elim (fun e => Ev Lx 182 cd_182 20 [] [] g o) (fun r => o = (some (.int r), g))) b) : Ev Lx 182 cd_182 2 [some (.ref 157), some (.int v1), some (.int v2)] [] g o := by
  unfold b_Mo_deafAt_2 at h
  refine ev_rn (n := 4) (i2 := 6) (L2 := [some (.ref 157), some (.int v1), some (.int v2)]) (st2 := [.int (13 : Int32), .ref 160, .int v2]) (g2 := g) cdE_182 rfl ?_
  refine ev_iaload (v := .int (g.1 160 13)) rfl (kd_of (show S0[160]? = some (100, 19, List.replicate 19 none) from rfl)) (by decide) ⟨by decide, by decide⟩ rfl ?_
  by_cases hc1 : (g.1 160 13) ≤ v2
  · rw [if_pos hc1] at h
    refine ev_ift cdE_182 rfl (cn_t hc1) ?_
    cases h
    exact ev_wk (L := []) hb trivial
  · rw [if_neg hc1] at h
    refine ev_iff rfl (cn_f hc1) ?_
    refine ev_rn (n := 5) (i2 := 13) (L2 := [some (.ref 157), some (.int v1), some (.int v2)]) (st2 := [.int ((14 : Int32) + v2), .ref 160]) (g2 := g) cdE_182 rfl ?_
    by_cases hi2 : inb ((14 : Int32) + v2) 19
    · rw [if_pos hi2] at h
      refine ev_iaload (v := .int (g.1 160 ((14 : Int32) + v2).toNatClampNeg)) rfl (kd_of (show S0[160]? = some (100, 19, List.replicate 19 none) from rfl)) (by decide) hi2 rfl ?_
      refine ev_rn (n := 1) (i2 := 15) (L2 := [some (.ref 157), some (.int v1), some (.int v2)]) (st2 := [.int v1, .int (g.1 160 ((14 : Int32) + v2).toNatClampNeg)]) (g2 := g) cdE_182 rfl ?_
      by_cases hc3 : (g.1 160 ((14 : Int32) + v2).toNatClampNeg) = v1
      · rw [if_pos hc3] at h
        refine ev_iff rfl (cn_f (fun q => q hc3)) ?_
        refine ev_rn (n := 1) (i2 := 17) (L2 := [some (.ref 157), some (.int v1), some (.int v2)]) (st2 := [.int v2]) (g2 := g) cdE_182 rfl ?_
        cases h
        cases hb
        exact ev_ret rfl rfl
      · rw [if_neg hc3] at h
        refine ev_ift cdE_182 rfl (cn_t hc3) ?_
        refine ev_rn (n := 2) (i2 := 2) (L2 := [some (.ref 157), some (.int v1), some (.int (v2 + (1 : Int32)))]) (st2 := []) (g2 := g) cdE_182 rfl ?_
        cases h
        exact ev_wk (L := [some (.ref 157), some (.int v1), some (.int (v2 + (1 : Int32)))]) hb ⟨rfl, ⟨rfl, ⟨rfl, trivial⟩⟩⟩
    · rw [if_neg hi2] at h
      cases h
def f_Mo_deafAt (p0 : Int32) (g : M2) : Option (Int32) := ((lp (fun s => b_Mo_deafAt_2 p0 s g) 5000 (0 : Int32)).bind fun ue4 => Sum.elim (fun e4 => some (-1 : Int32)) (fun re4 => some re4) ue4)
theorem e_Mo_deafAt {Lx : Nat} (p0 : Int32)  (g : M2) {b : Int32} (h : f_Mo_deafAt p0 g = some b) : Ev Lx 182 cd_182 0 [some (.ref 157), some (.int p0)] [] g (some (.int b), g) := by
  unfold f_Mo_deafAt at h
  refine ev_rn (n := 2) (i2 := 2) (L2 := [some (.ref 157), some (.int p0), some (.int (0 : Int32))]) (st2 := []) (g2 := g) cdE_182 rfl ?_
  obtain ⟨ue4, he4, h⟩ := Option.bind_eq_some_iff.mp h
  cases ue4 with
  | inl e4 =>
    replace h := h
    have hX5 : Ev Lx 182 cd_182 20 [] [] g (some (.int b), g) := by
      simp only [Sum.elim_inl] at h
      refine ev_rn (n := 1) (i2 := 21) (L2 := []) (st2 := [.int (-1 : Int32)]) (g2 := g) cdE_182 rfl ?_
      cases h
      exact ev_ret rfl rfl
    exact ev_wk (L := [some (.ref 157), some (.int p0), some (.int (0 : Int32))]) (lp_ind (P := (fun (s : Int32) => Ev Lx 182 cd_182 2 [some (.ref 157), some (.int p0), some (.int s)] [] g (some (.int b), g))) (fun s s2 hs hP => tb_Mo_deafAt_2 p0  s g (b := .inl s2) hs hP) (fun s hs => tb_Mo_deafAt_2 p0  s g (b := .inr (.inl e4)) hs hX5) _ _ he4) ⟨rfl, ⟨rfl, ⟨rfl, trivial⟩⟩⟩
  | inr re4 =>
    simp only [Sum.elim_inr] at h
    cases h
    exact ev_wk (L := [some (.ref 157), some (.int p0), some (.int (0 : Int32))]) (lp_ind (P := (fun (s : Int32) => Ev Lx 182 cd_182 2 [some (.ref 157), some (.int p0), some (.int s)] [] g (some (.int b), g))) (fun s s2 hs hP => tb_Mo_deafAt_2 p0  s g (b := .inl s2) hs hP) (fun s hs => tb_Mo_deafAt_2 p0  s g (b := .inr (.inr b)) hs rfl) _ _ he4) ⟨rfl, ⟨rfl, ⟨rfl, trivial⟩⟩⟩
def f_Mo_isAside (p0 : Int32) (g : M2) : Option (Int32) := ((f_Mo_lookNow g).bind fun q1 => (if p0 = q1 then some (0 : Int32) else ((f_Mo_deafAt p0 g).bind fun q3 => (if q3 = (-1 : Int32) then ((f_Mo_lookNow g).bind fun q5 => ((f_Mo_twinsOf q5 g).bind fun q6 => (if ((q6 >>> (p0 &&& 31)) &&& (1 : Int32)) = 0 then some (1 : Int32) else some (0 : Int32)))) else some (0 : Int32)))))
theorem e_Mo_isAside {Lx : Nat} (p0 : Int32)  (g : M2) {b : Int32} (h : f_Mo_isAside p0 g = some b) : Ev Lx 183 cd_183 0 [some (.ref 157), some (.int p0)] [] g (some (.int b), g) := by
  unfold f_Mo_isAside at h
  refine ev_rn (n := 2) (i2 := 2) (L2 := [some (.ref 157), some (.int p0)]) (st2 := [.ref 157, .int p0]) (g2 := g) cdE_183 rfl ?_
  obtain ⟨q1, hq1, h⟩ := Option.bind_eq_some_iff.mp h
  refine ev_call rfl cdE_63 rfl rfl rfl (e_Mo_lookNow   g hq1) ?_
  by_cases hc2 : p0 = q1
  · rw [if_pos hc2] at h
    refine ev_ift cdE_183 rfl (cn_t hc2) ?_
    refine ev_rn (n := 1) (i2 := 21) (L2 := [some (.ref 157), some (.int p0)]) (st2 := [.int (0 : Int32)]) (g2 := g) cdE_183 rfl ?_
    cases h
    exact ev_ret rfl rt_0
  · rw [if_neg hc2] at h
    refine ev_iff rfl (cn_f hc2) ?_
    refine ev_rn (n := 2) (i2 := 6) (L2 := [some (.ref 157), some (.int p0)]) (st2 := [.int p0, .ref 157]) (g2 := g) cdE_183 rfl ?_
    obtain ⟨q3, hq3, h⟩ := Option.bind_eq_some_iff.mp h
    refine ev_call rfl cdE_182 rfl rfl rfl (e_Mo_deafAt p0  g hq3) ?_
    refine ev_rn (n := 1) (i2 := 8) (L2 := [some (.ref 157), some (.int p0)]) (st2 := [.int (-1 : Int32), .int q3]) (g2 := g) cdE_183 rfl ?_
    by_cases hc4 : q3 = (-1 : Int32)
    · rw [if_pos hc4] at h
      refine ev_iff rfl (cn_f (fun q => q hc4)) ?_
      refine ev_rn (n := 2) (i2 := 11) (L2 := [some (.ref 157), some (.int p0)]) (st2 := [.ref 157, .ref 157]) (g2 := g) cdE_183 rfl ?_
      obtain ⟨q5, hq5, h⟩ := Option.bind_eq_some_iff.mp h
      refine ev_call rfl cdE_63 rfl rfl rfl (e_Mo_lookNow   g hq5) ?_
      obtain ⟨q6, hq6, h⟩ := Option.bind_eq_some_iff.mp h
      refine ev_call rfl cdE_176 rfl rfl rfl (e_Mo_twinsOf q5  g hq6) ?_
      refine ev_rn (n := 4) (i2 := 17) (L2 := [some (.ref 157), some (.int p0)]) (st2 := [.int ((q6 >>> (p0 &&& 31)) &&& (1 : Int32))]) (g2 := g) cdE_183 rfl ?_
      by_cases hc7 : ((q6 >>> (p0 &&& 31)) &&& (1 : Int32)) = 0
      · rw [if_pos hc7] at h
        refine ev_zff rfl (cn_f (fun q => q hc7)) ?_
        refine ev_rn (n := 2) (i2 := 21) (L2 := [some (.ref 157), some (.int p0)]) (st2 := [.int (1 : Int32)]) (g2 := g) cdE_183 rfl ?_
        cases h
        exact ev_ret rfl rt_1
      · rw [if_neg hc7] at h
        refine ev_zft cdE_183 rfl (cn_t hc7) ?_
        refine ev_rn (n := 1) (i2 := 21) (L2 := [some (.ref 157), some (.int p0)]) (st2 := [.int (0 : Int32)]) (g2 := g) cdE_183 rfl ?_
        cases h
        exact ev_ret rfl rt_0
    · rw [if_neg hc4] at h
      refine ev_ift cdE_183 rfl (cn_t hc4) ?_
      refine ev_rn (n := 1) (i2 := 21) (L2 := [some (.ref 157), some (.int p0)]) (st2 := [.int (0 : Int32)]) (g2 := g) cdE_183 rfl ?_
      cases h
      exact ev_ret rfl rt_0
def b_Mo_side_11  (v1 : Int32) (v2 : Int32) (g : M2) : Option ((Int32 × Int32) ⊕ Int32) := (if (12 : Int32) ≤ v2 then some (.inr v1) else ((f_Mo_isAside v2 g).bind fun q5 => (if q5 = 0 then some (.inl (v1, (v2 + (1 : Int32)))) else (if v1 = (-1 : Int32) then some (.inl (v2, (v2 + (1 : Int32)))) else ((f_Mo_compared v2 v1 g).bind fun q8 => (if q8 ≤ 0 then some (.inl (v1, (v2 + (1 : Int32)))) else some (.inl (v2, (v2 + (1 : Int32))))))))))
theorem tb_Mo_side_11 {Lx : Nat}   (v1 : Int32) (v2 : Int32) (g : M2) {b : (Int32 × Int32) ⊕ Int32} {o : Option Value × M2} (h : b_Mo_side_11 v1 v2 g = some b) (hb : Sum.elim (fun s => Ev Lx 184 cd_184 11 [some (.ref 157), some (.int s.1), some (.int s.2)] [] g o) (fun e => Ev Lx 184 cd_184 30 [none, some (.int e)] [] g o) b) : Ev Lx 184 cd_184 11 [some (.ref 157), some (.int v1), some (.int v2)] [] g o := by
  unfold b_Mo_side_11 at h
  refine ev_rn (n := 2) (i2 := 13) (L2 := [some (.ref 157), some (.int v1), some (.int v2)]) (st2 := [.int (12 : Int32), .int v2]) (g2 := g) cdE_184 rfl ?_
  by_cases hc4 : (12 : Int32) ≤ v2
  · rw [if_pos hc4] at h
    refine ev_ift cdE_184 rfl (cn_t hc4) ?_
    cases h
    exact ev_wk (L := [none, some (.int v1)]) hb ⟨rfl, trivial⟩
  · rw [if_neg hc4] at h
    refine ev_iff rfl (cn_f hc4) ?_
    refine ev_rn (n := 2) (i2 := 16) (L2 := [some (.ref 157), some (.int v1), some (.int v2)]) (st2 := [.int v2, .ref 157]) (g2 := g) cdE_184 rfl ?_
    obtain ⟨q5, hq5, h⟩ := Option.bind_eq_some_iff.mp h
    refine ev_call rfl cdE_183 rfl rfl rfl (e_Mo_isAside v2  g hq5) ?_
    by_cases hc6 : q5 = 0
    · rw [if_pos hc6] at h
      refine ev_zft cdE_184 rfl (cn_t hc6) ?_
      refine ev_rn (n := 2) (i2 := 11) (L2 := [some (.ref 157), some (.int v1), some (.int (v2 + (1 : Int32)))]) (st2 := []) (g2 := g) cdE_184 rfl ?_
      cases h
      exact ev_wk (L := [some (.ref 157), some (.int v1), some (.int (v2 + (1 : Int32)))]) hb ⟨rfl, ⟨rfl, ⟨rfl, trivial⟩⟩⟩
    · rw [if_neg hc6] at h
      refine ev_zff rfl (cn_f hc6) ?_
      refine ev_rn (n := 2) (i2 := 20) (L2 := [some (.ref 157), some (.int v1), some (.int v2)]) (st2 := [.int (-1 : Int32), .int v1]) (g2 := g) cdE_184 rfl ?_
      by_cases hc7 : v1 = (-1 : Int32)
      · rw [if_pos hc7] at h
        refine ev_ift cdE_184 rfl (cn_t hc7) ?_
        refine ev_rn (n := 3) (i2 := 29) (L2 := [some (.ref 157), some (.int v2), some (.int (v2 + (1 : Int32)))]) (st2 := []) (g2 := g) cdE_184 rfl ?_
        refine ev_rn (n := 1) (i2 := 11) (L2 := [some (.ref 157), some (.int v2), some (.int (v2 + (1 : Int32)))]) (st2 := []) (g2 := g) cdE_184 rfl ?_
        cases h
        exact ev_wk (L := [some (.ref 157), some (.int v2), some (.int (v2 + (1 : Int32)))]) hb ⟨rfl, ⟨rfl, ⟨rfl, trivial⟩⟩⟩
      · rw [if_neg hc7] at h
        refine ev_iff rfl (cn_f hc7) ?_
        refine ev_rn (n := 3) (i2 := 24) (L2 := [some (.ref 157), some (.int v1), some (.int v2)]) (st2 := [.int v1, .int v2, .ref 157]) (g2 := g) cdE_184 rfl ?_
        obtain ⟨q8, hq8, h⟩ := Option.bind_eq_some_iff.mp h
        refine ev_call rfl cdE_149 rfl rfl rfl (e_Mo_compared v2 v1  g hq8) ?_
        by_cases hc9 : q8 ≤ 0
        · rw [if_pos hc9] at h
          refine ev_zft cdE_184 rfl (cn_t hc9) ?_
          refine ev_rn (n := 2) (i2 := 11) (L2 := [some (.ref 157), some (.int v1), some (.int (v2 + (1 : Int32)))]) (st2 := []) (g2 := g) cdE_184 rfl ?_
          cases h
          exact ev_wk (L := [some (.ref 157), some (.int v1), some (.int (v2 + (1 : Int32)))]) hb ⟨rfl, ⟨rfl, ⟨rfl, trivial⟩⟩⟩
        · rw [if_neg hc9] at h
          refine ev_zff rfl (cn_f hc9) ?_
          refine ev_rn (n := 3) (i2 := 29) (L2 := [some (.ref 157), some (.int v2), some (.int (v2 + (1 : Int32)))]) (st2 := []) (g2 := g) cdE_184 rfl ?_
          refine ev_rn (n := 1) (i2 := 11) (L2 := [some (.ref 157), some (.int v2), some (.int (v2 + (1 : Int32)))]) (st2 := []) (g2 := g) cdE_184 rfl ?_
          cases h
          exact ev_wk (L := [some (.ref 157), some (.int v2), some (.int (v2 + (1 : Int32)))]) hb ⟨rfl, ⟨rfl, ⟨rfl, trivial⟩⟩⟩
def f_Mo_side  (g : M2) : Option (Int32 × M2) := ((f_Mo_canNow g).bind fun q1 => (if q1.1 = 0 then some ((-2 : Int32), q1.2) else ((f_Mo_laysPowers q1.2).bind fun q3 => ((lp (fun s => b_Mo_side_11  s.1 s.2 q3) 5000 ((-1 : Int32), (0 : Int32))).bind fun e10 => some (e10, q3)))))
theorem e_Mo_side {Lx : Nat}   (g : M2) {b : (Int32 × M2)} (h : f_Mo_side  g = some b) : Ev Lx 184 cd_184 0 [some (.ref 157)] [] g (some (.int b.1), b.2) := by
  unfold f_Mo_side at h
  refine ev_rn (n := 1) (i2 := 1) (L2 := [some (.ref 157)]) (st2 := [.ref 157]) (g2 := g) cdE_184 rfl ?_
  obtain ⟨q1, hq1, h⟩ := Option.bind_eq_some_iff.mp h
  refine ev_call rfl cdE_118 rfl rfl rfl (e_Mo_canNow   g hq1) ?_
  by_cases hc2 : q1.1 = 0
  · rw [if_pos hc2] at h
    refine ev_zff rfl (cn_f (fun q => q hc2)) ?_
    refine ev_rn (n := 1) (i2 := 4) (L2 := [some (.ref 157)]) (st2 := [.int (-2 : Int32)]) (g2 := q1.2) cdE_184 rfl ?_
    cases h
    exact ev_ret rfl rfl
  · rw [if_neg hc2] at h
    refine ev_zft cdE_184 rfl (cn_t hc2) ?_
    refine ev_rn (n := 1) (i2 := 6) (L2 := [some (.ref 157)]) (st2 := [.ref 157]) (g2 := q1.2) cdE_184 rfl ?_
    obtain ⟨q3, hq3, h⟩ := Option.bind_eq_some_iff.mp h
    refine ev_call rfl cdE_147 rfl rfl rfl (e_Mo_laysPowers   q1.2 hq3) ?_
    refine ev_rn (n := 4) (i2 := 11) (L2 := [some (.ref 157), some (.int (-1 : Int32)), some (.int (0 : Int32))]) (st2 := []) (g2 := q3) cdE_184 rfl ?_
    obtain ⟨e10, he10, h⟩ := Option.bind_eq_some_iff.mp h
    have hX11 : Ev Lx 184 cd_184 30 [none, some (.int e10)] [] q3 (some (.int b.1), b.2) := by
      refine ev_rn (n := 1) (i2 := 31) (L2 := [none, some (.int e10)]) (st2 := [.int e10]) (g2 := q3) cdE_184 rfl ?_
      cases h
      exact ev_ret rfl rfl
    exact ev_wk (L := [some (.ref 157), some (.int (-1 : Int32)), some (.int (0 : Int32))]) (lp_ind (P := (fun (s : (Int32 × Int32)) => Ev Lx 184 cd_184 11 [some (.ref 157), some (.int s.1), some (.int s.2)] [] q3 (some (.int b.1), b.2))) (fun s s2 hs hP => tb_Mo_side_11   s.1 s.2 q3 (b := .inl s2) hs hP) (fun s hs => tb_Mo_side_11   s.1 s.2 q3 (b := .inr e10) hs hX11) _ _ he10) ⟨rfl, ⟨rfl, ⟨rfl, trivial⟩⟩⟩
def b_So_asideAtMost_6 (v0 : Nat) (v1 : Int32) (v2 : Int32) (v3 : Int32) (v4 : Int32) (g : M2) : Option ((Int32 × M2) ⊕ (M2 ⊕ (Int32 × M2))) := (if (12 : Int32) ≤ v4 then some (.inr (.inl g)) else (if ((v3 >>> (v4 &&& 31)) &&& (1 : Int32)) = 0 then some (.inl ((v4 + (1 : Int32)), g)) else ((f_Pl_hearBy (v0 + 1) (v0 + 43) v4 (v0 + 64) g).bind fun q4 => ((f_So_compareTo v0 (f_Nu_powerX (v0 + 64) q4) (f_Nu_powerY (v0 + 64) q4) v1 v2 q4).bind fun q5 => (if q5 ≤ 0 then some (.inl ((v4 + (1 : Int32)), q4)) else some (.inr (.inr ((0 : Int32), q4))))))))
theorem tb_So_asideAtMost_6 {Lx : Nat} (v0 : Nat) (v1 : Int32) (v2 : Int32) (v3 : Int32) (hv0 : IsSol v0) (v4 : Int32) (g : M2) {b : (Int32 × M2) ⊕ (M2 ⊕ (Int32 × M2))} {o : Option Value × M2} (h : b_So_asideAtMost_6 v0 v1 v2 v3 v4 g = some b) (hb : Sum.elim (fun s => Ev Lx 185 cd_185 6 [some (.ref v0), some (.int v1), some (.int v2), some (.int v3), some (.int s.1)] [] s.2 o) (Sum.elim (fun e => Ev Lx 185 cd_185 38 [] [] e o) (fun r => o = (some (.int r.1), r.2))) b) : Ev Lx 185 cd_185 6 [some (.ref v0), some (.int v1), some (.int v2), some (.int v3), some (.int v4)] [] g o := by
  unfold b_So_asideAtMost_6 at h
  refine ev_rn (n := 2) (i2 := 8) (L2 := [some (.ref v0), some (.int v1), some (.int v2), some (.int v3), some (.int v4)]) (st2 := [.int (12 : Int32), .int v4]) (g2 := g) cdE_185 rfl ?_
  by_cases hc2 : (12 : Int32) ≤ v4
  · rw [if_pos hc2] at h
    refine ev_ift cdE_185 rfl (cn_t hc2) ?_
    cases h
    exact ev_wk (L := []) hb trivial
  · rw [if_neg hc2] at h
    refine ev_iff rfl (cn_f hc2) ?_
    refine ev_rn (n := 5) (i2 := 14) (L2 := [some (.ref v0), some (.int v1), some (.int v2), some (.int v3), some (.int v4)]) (st2 := [.int ((v3 >>> (v4 &&& 31)) &&& (1 : Int32))]) (g2 := g) cdE_185 rfl ?_
    by_cases hc3 : ((v3 >>> (v4 &&& 31)) &&& (1 : Int32)) = 0
    · rw [if_pos hc3] at h
      refine ev_zft cdE_185 rfl (cn_t hc3) ?_
      refine ev_rn (n := 2) (i2 := 6) (L2 := [some (.ref v0), some (.int v1), some (.int v2), some (.int v3), some (.int (v4 + (1 : Int32)))]) (st2 := []) (g2 := g) cdE_185 rfl ?_
      cases h
      exact ev_wk (L := [some (.ref v0), some (.int v1), some (.int v2), some (.int v3), some (.int (v4 + (1 : Int32)))]) hb ⟨rfl, ⟨rfl, ⟨rfl, ⟨rfl, ⟨rfl, trivial⟩⟩⟩⟩⟩
    · rw [if_neg hc3] at h
      refine ev_zff rfl (cn_f hc3) ?_
      refine ev_rn (n := 1) (i2 := 16) (L2 := [some (.ref v0), some (.int v1), some (.int v2), some (.int v3), some (.int v4)]) (st2 := [.ref v0]) (g2 := g) cdE_185 rfl ?_
      refine ev_gf (v := .ref (v0 + 1)) rfl (so_at hv0) (by decide) rfl ?_
      refine ev_rn (n := 1) (i2 := 18) (L2 := [some (.ref v0), some (.int v1), some (.int v2), some (.int v3), some (.int v4)]) (st2 := [.ref v0, .ref (v0 + 1)]) (g2 := g) cdE_185 rfl ?_
      refine ev_gf (v := .ref (v0 + 43)) rfl (so_at hv0) (by decide) rfl ?_
      refine ev_rn (n := 2) (i2 := 21) (L2 := [some (.ref v0), some (.int v1), some (.int v2), some (.int v3), some (.int v4)]) (st2 := [.ref v0, .int v4, .ref (v0 + 43), .ref (v0 + 1)]) (g2 := g) cdE_185 rfl ?_
      refine ev_gf (v := .ref (v0 + 64)) rfl (so_at hv0) (by decide) rfl ?_
      obtain ⟨q4, hq4, h⟩ := Option.bind_eq_some_iff.mp h
      refine ev_call rfl cdE_96 (cokV rfl rfl (pl_at (so_1 hv0)) rfl) rfl rfl (e_Pl_hearBy (v0 + 1) (v0 + 43) v4 (v0 + 64) (so_1 hv0) (so_43 hv0) (so_64 hv0) g hq4) ?_
      refine ev_rn (n := 2) (i2 := 25) (L2 := [some (.ref v0), some (.int v1), some (.int v2), some (.int v3), some (.int v4)]) (st2 := [.ref v0, .ref v0]) (g2 := q4) cdE_185 rfl ?_
      refine ev_gf (v := .ref (v0 + 64)) rfl (so_at hv0) (by decide) rfl ?_
      refine ev_call rfl cdE_97 (cokV rfl rfl (so_64 hv0) rfl) rfl rfl (e_Nu_powerX (v0 + 64) (so_64 hv0) q4 rfl) ?_
      refine ev_rn (n := 1) (i2 := 28) (L2 := [some (.ref v0), some (.int v1), some (.int v2), some (.int v3), some (.int v4)]) (st2 := [.ref v0, .long (f_Nu_powerX (v0 + 64) q4), .ref v0]) (g2 := q4) cdE_185 rfl ?_
      refine ev_gf (v := .ref (v0 + 64)) rfl (so_at hv0) (by decide) rfl ?_
      refine ev_call rfl cdE_98 (cokV rfl rfl (so_64 hv0) rfl) rfl rfl (e_Nu_powerY (v0 + 64) (so_64 hv0) q4 rfl) ?_
      refine ev_rn (n := 2) (i2 := 32) (L2 := [some (.ref v0), some (.int v1), some (.int v2), some (.int v3), some (.int v4)]) (st2 := [.int v2, .int v1, .long (f_Nu_powerY (v0 + 64) q4), .long (f_Nu_powerX (v0 + 64) q4), .ref v0]) (g2 := q4) cdE_185 rfl ?_
      obtain ⟨q5, hq5, h⟩ := Option.bind_eq_some_iff.mp h
      refine ev_call rfl cdE_155 (cokV rfl rfl (so_at hv0) rfl) rfl rfl (e_So_compareTo v0 (f_Nu_powerX (v0 + 64) q4) (f_Nu_powerY (v0 + 64) q4) v1 v2 hv0 q4 hq5) ?_
      by_cases hc6 : q5 ≤ 0
      · rw [if_pos hc6] at h
        refine ev_zft cdE_185 rfl (cn_t hc6) ?_
        refine ev_rn (n := 2) (i2 := 6) (L2 := [some (.ref v0), some (.int v1), some (.int v2), some (.int v3), some (.int (v4 + (1 : Int32)))]) (st2 := []) (g2 := q4) cdE_185 rfl ?_
        cases h
        exact ev_wk (L := [some (.ref v0), some (.int v1), some (.int v2), some (.int v3), some (.int (v4 + (1 : Int32)))]) hb ⟨rfl, ⟨rfl, ⟨rfl, ⟨rfl, ⟨rfl, trivial⟩⟩⟩⟩⟩
      · rw [if_neg hc6] at h
        refine ev_zff rfl (cn_f hc6) ?_
        refine ev_rn (n := 1) (i2 := 35) (L2 := [some (.ref v0), some (.int v1), some (.int v2), some (.int v3), some (.int v4)]) (st2 := [.int (0 : Int32)]) (g2 := q4) cdE_185 rfl ?_
        cases h
        cases hb
        exact ev_ret rfl rt_0
def f_So_asideAtMost (a0 : Nat) (p0 : Int32) (p1 : Int32) (g : M2) : Option (Int32 × M2) := ((f_Pl_asideBits (a0 + 1) g).bind fun q1 => ((lp (fun s => b_So_asideAtMost_6 a0 p0 p1 q1 s.1 s.2) 5000 ((0 : Int32), g)).bind fun ue7 => Sum.elim (fun e7 => some ((1 : Int32), e7)) (fun re7 => some re7) ue7))
theorem e_So_asideAtMost {Lx : Nat} (a0 : Nat) (p0 : Int32) (p1 : Int32) (ha0 : IsSol a0) (g : M2) {b : (Int32 × M2)} (h : f_So_asideAtMost a0 p0 p1 g = some b) : Ev Lx 185 cd_185 0 [some (.ref a0), some (.int p0), some (.int p1)] [] g (some (.int b.1), b.2) := by
  unfold f_So_asideAtMost at h
  refine ev_rn (n := 1) (i2 := 1) (L2 := [some (.ref a0), some (.int p0), some (.int p1)]) (st2 := [.ref a0]) (g2 := g) cdE_185 rfl ?_
  refine ev_gf (v := .ref (a0 + 1)) rfl (so_at ha0) (by decide) rfl ?_
  obtain ⟨q1, hq1, h⟩ := Option.bind_eq_some_iff.mp h
  refine ev_call rfl cdE_180 (cokV rfl rfl (pl_at (so_1 ha0)) rfl) rfl rfl (e_Pl_asideBits (a0 + 1) (so_1 ha0) g hq1) ?_
  refine ev_rn (n := 3) (i2 := 6) (L2 := [some (.ref a0), some (.int p0), some (.int p1), some (.int q1), some (.int (0 : Int32))]) (st2 := []) (g2 := g) cdE_185 rfl ?_
  obtain ⟨ue7, he7, h⟩ := Option.bind_eq_some_iff.mp h
  cases ue7 with
  | inl e7 =>
    replace h := h
    have hX8 : Ev Lx 185 cd_185 38 [] [] e7 (some (.int b.1), b.2) := by
      simp only [Sum.elim_inl] at h
      refine ev_rn (n := 1) (i2 := 39) (L2 := []) (st2 := [.int (1 : Int32)]) (g2 := e7) cdE_185 rfl ?_
      cases h
      exact ev_ret rfl rt_1
    exact ev_wk (L := [some (.ref a0), some (.int p0), some (.int p1), some (.int q1), some (.int (0 : Int32))]) (lp_ind (P := (fun (s : (Int32 × M2)) => Ev Lx 185 cd_185 6 [some (.ref a0), some (.int p0), some (.int p1), some (.int q1), some (.int s.1)] [] s.2 (some (.int b.1), b.2))) (fun s s2 hs hP => tb_So_asideAtMost_6 a0 p0 p1 q1 ha0 s.1 s.2 (b := .inl s2) hs hP) (fun s hs => tb_So_asideAtMost_6 a0 p0 p1 q1 ha0 s.1 s.2 (b := .inr (.inl e7)) hs hX8) _ _ he7) ⟨rfl, ⟨rfl, ⟨rfl, ⟨rfl, ⟨rfl, trivial⟩⟩⟩⟩⟩
  | inr re7 =>
    simp only [Sum.elim_inr] at h
    cases h
    exact ev_wk (L := [some (.ref a0), some (.int p0), some (.int p1), some (.int q1), some (.int (0 : Int32))]) (lp_ind (P := (fun (s : (Int32 × M2)) => Ev Lx 185 cd_185 6 [some (.ref a0), some (.int p0), some (.int p1), some (.int q1), some (.int s.1)] [] s.2 (some (.int b.1), b.2))) (fun s s2 hs hP => tb_So_asideAtMost_6 a0 p0 p1 q1 ha0 s.1 s.2 (b := .inl s2) hs hP) (fun s hs => tb_So_asideAtMost_6 a0 p0 p1 q1 ha0 s.1 s.2 (b := .inr (.inr b)) hs rfl) _ _ he7) ⟨rfl, ⟨rfl, ⟨rfl, ⟨rfl, ⟨rfl, trivial⟩⟩⟩⟩⟩
def f_Da_bounded (p0 : Int32) (p1 : Int32) (g : M2) : Option (Int32 × M2) := ((f_Da_refresh g).bind fun q1 => (if (q1.1 6 13) = 0 then some ((-2 : Int32), q1) else (if (f_Da_isFraction p0 p1 q1) = 0 then some ((-2 : Int32), q1) else ((f_So_asideAtMost 6 p0 p1 q1).bind fun q4 => (if q4.1 = 0 then some ((0 : Int32), q4.2) else some ((1 : Int32), q4.2))))))
theorem e_Da_bounded {Lx : Nat} (p0 : Int32) (p1 : Int32)  (g : M2) {b : (Int32 × M2)} (h : f_Da_bounded p0 p1 g = some b) : Ev Lx 186 cd_186 0 [some (.ref 0), some (.int p0), some (.int p1)] [] g (some (.int b.1), b.2) := by
  unfold f_Da_bounded at h
  refine ev_rn (n := 1) (i2 := 1) (L2 := [some (.ref 0), some (.int p0), some (.int p1)]) (st2 := [.ref 0]) (g2 := g) cdE_186 rfl ?_
  obtain ⟨q1, hq1, h⟩ := Option.bind_eq_some_iff.mp h
  refine ev_call rfl cdE_100 rfl rfl rfl (e_Da_refresh   g hq1) ?_
  refine ev_rn (n := 3) (i2 := 5) (L2 := [some (.ref 0), some (.int p0), some (.int p1)]) (st2 := [.int (q1.1 6 13)]) (g2 := q1) cdE_186 rfl ?_
  by_cases hc2 : (q1.1 6 13) = 0
  · rw [if_pos hc2] at h
    refine ev_zft cdE_186 rfl (cn_t hc2) ?_
    refine ev_rn (n := 1) (i2 := 11) (L2 := [some (.ref 0), some (.int p0), some (.int p1)]) (st2 := [.int (-2 : Int32)]) (g2 := q1) cdE_186 rfl ?_
    cases h
    exact ev_ret rfl rfl
  · rw [if_neg hc2] at h
    refine ev_zff rfl (cn_f hc2) ?_
    refine ev_rn (n := 2) (i2 := 8) (L2 := [some (.ref 0), some (.int p0), some (.int p1)]) (st2 := [.int p1, .int p0]) (g2 := q1) cdE_186 rfl ?_
    refine ev_call rfl cdE_154 rfl rfl rfl (e_Da_isFraction p0 p1  q1 rfl) ?_
    by_cases hc3 : (f_Da_isFraction p0 p1 q1) = 0
    · rw [if_pos hc3] at h
      refine ev_zff rfl (cn_f (fun q => q hc3)) ?_
      refine ev_rn (n := 1) (i2 := 11) (L2 := [some (.ref 0), some (.int p0), some (.int p1)]) (st2 := [.int (-2 : Int32)]) (g2 := q1) cdE_186 rfl ?_
      cases h
      exact ev_ret rfl rfl
    · rw [if_neg hc3] at h
      refine ev_zft cdE_186 rfl (cn_t hc3) ?_
      refine ev_rn (n := 4) (i2 := 16) (L2 := [some (.ref 0), some (.int p0), some (.int p1)]) (st2 := [.int p1, .int p0, .ref 6]) (g2 := q1) cdE_186 rfl ?_
      obtain ⟨q4, hq4, h⟩ := Option.bind_eq_some_iff.mp h
      refine ev_call rfl cdE_185 rfl rfl rfl (e_So_asideAtMost 6 p0 p1 (by decide) q1 hq4) ?_
      by_cases hc5 : q4.1 = 0
      · rw [if_pos hc5] at h
        refine ev_zft cdE_186 rfl (cn_t hc5) ?_
        refine ev_rn (n := 1) (i2 := 21) (L2 := [some (.ref 0), some (.int p0), some (.int p1)]) (st2 := [.int (0 : Int32)]) (g2 := q4.2) cdE_186 rfl ?_
        cases h
        exact ev_ret rfl rfl
      · rw [if_neg hc5] at h
        refine ev_zff rfl (cn_f hc5) ?_
        refine ev_rn (n := 2) (i2 := 21) (L2 := [some (.ref 0), some (.int p0), some (.int p1)]) (st2 := [.int (1 : Int32)]) (g2 := q4.2) cdE_186 rfl ?_
        cases h
        exact ev_ret rfl rfl
def b_Mo_bounded_13 (v1 : Int32) (v2 : Int32) (v3 : Int32) (g : M2) : Option (Int32 ⊕ (Unit ⊕ (Int32 × M2))) := (if (12 : Int32) ≤ v3 then some (.inr (.inl ())) else ((f_Mo_isAside v3 g).bind fun q6 => (if q6 = 0 then some (.inl (v3 + (1 : Int32))) else (if inb v3 12 then (if inb v3 12 then ((f_Mo_signOf (((g.2 169 v3.toNatClampNeg) * v2.toInt64) - (((g.2 157 16) * (g.2 157 16)) * v1.toInt64)) ((g.2 170 v3.toNatClampNeg) * v2.toInt64) g).bind fun q10 => (if q10 ≤ 0 then some (.inl (v3 + (1 : Int32))) else some (.inr (.inr ((0 : Int32), g))))) else none) else none))))
theorem tb_Mo_bounded_13 {Lx : Nat} (v1 : Int32) (v2 : Int32)  (v3 : Int32) (g : M2) {b : Int32 ⊕ (Unit ⊕ (Int32 × M2))} {o : Option Value × M2} (h : b_Mo_bounded_13 v1 v2 v3 g = some b) (hb : Sum.elim (fun s => Ev Lx 187 cd_187 13 [some (.ref 157), some (.int v1), some (.int v2), some (.int s)] [] g o) (Sum.elim (fun e => Ev Lx 187 cd_187 49 [] [] g o) (fun r => o = (some (.int r.1), r.2))) b) : Ev Lx 187 cd_187 13 [some (.ref 157), some (.int v1), some (.int v2), some (.int v3)] [] g o := by
  unfold b_Mo_bounded_13 at h
  refine ev_rn (n := 2) (i2 := 15) (L2 := [some (.ref 157), some (.int v1), some (.int v2), some (.int v3)]) (st2 := [.int (12 : Int32), .int v3]) (g2 := g) cdE_187 rfl ?_
  by_cases hc5 : (12 : Int32) ≤ v3
  · rw [if_pos hc5] at h
    refine ev_ift cdE_187 rfl (cn_t hc5) ?_
    cases h
    exact ev_wk (L := []) hb trivial
  · rw [if_neg hc5] at h
    refine ev_iff rfl (cn_f hc5) ?_
    refine ev_rn (n := 2) (i2 := 18) (L2 := [some (.ref 157), some (.int v1), some (.int v2), some (.int v3)]) (st2 := [.int v3, .ref 157]) (g2 := g) cdE_187 rfl ?_
    obtain ⟨q6, hq6, h⟩ := Option.bind_eq_some_iff.mp h
    refine ev_call rfl cdE_183 rfl rfl rfl (e_Mo_isAside v3  g hq6) ?_
    by_cases hc7 : q6 = 0
    · rw [if_pos hc7] at h
      refine ev_zft cdE_187 rfl (cn_t hc7) ?_
      refine ev_rn (n := 2) (i2 := 13) (L2 := [some (.ref 157), some (.int v1), some (.int v2), some (.int (v3 + (1 : Int32)))]) (st2 := []) (g2 := g) cdE_187 rfl ?_
      cases h
      exact ev_wk (L := [some (.ref 157), some (.int v1), some (.int v2), some (.int (v3 + (1 : Int32)))]) hb ⟨rfl, ⟨rfl, ⟨rfl, ⟨rfl, trivial⟩⟩⟩⟩
    · rw [if_neg hc7] at h
      refine ev_zff rfl (cn_f hc7) ?_
      refine ev_rn (n := 3) (i2 := 23) (L2 := [some (.ref 157), some (.int v1), some (.int v2), some (.int v3)]) (st2 := [.int v3, .ref 169]) (g2 := g) cdE_187 rfl ?_
      by_cases hi8 : inb v3 12
      · rw [if_pos hi8] at h
        refine ev_laload (v := .long (g.2 169 v3.toNatClampNeg)) rfl (kd_of (show S0[169]? = some (101, 12, List.replicate 12 none) from rfl)) (by decide) hi8 rfl ?_
        refine ev_rn (n := 15) (i2 := 39) (L2 := [some (.ref 157), some (.int v1), some (.int v2), some (.int v3)]) (st2 := [.int v3, .ref 170, .long (((g.2 169 v3.toNatClampNeg) * v2.toInt64) - (((g.2 157 16) * (g.2 157 16)) * v1.toInt64))]) (g2 := g) cdE_187 rfl ?_
        by_cases hi9 : inb v3 12
        · rw [if_pos hi9] at h
          refine ev_laload (v := .long (g.2 170 v3.toNatClampNeg)) rfl (kd_of (show S0[170]? = some (101, 12, List.replicate 12 none) from rfl)) (by decide) hi9 rfl ?_
          refine ev_rn (n := 3) (i2 := 43) (L2 := [some (.ref 157), some (.int v1), some (.int v2), some (.int v3)]) (st2 := [.long ((g.2 170 v3.toNatClampNeg) * v2.toInt64), .long (((g.2 169 v3.toNatClampNeg) * v2.toInt64) - (((g.2 157 16) * (g.2 157 16)) * v1.toInt64))]) (g2 := g) cdE_187 rfl ?_
          obtain ⟨q10, hq10, h⟩ := Option.bind_eq_some_iff.mp h
          refine ev_call rfl cdE_148 rfl rfl rfl (e_Mo_signOf (((g.2 169 v3.toNatClampNeg) * v2.toInt64) - (((g.2 157 16) * (g.2 157 16)) * v1.toInt64)) ((g.2 170 v3.toNatClampNeg) * v2.toInt64)  g hq10) ?_
          by_cases hc11 : q10 ≤ 0
          · rw [if_pos hc11] at h
            refine ev_zft cdE_187 rfl (cn_t hc11) ?_
            refine ev_rn (n := 2) (i2 := 13) (L2 := [some (.ref 157), some (.int v1), some (.int v2), some (.int (v3 + (1 : Int32)))]) (st2 := []) (g2 := g) cdE_187 rfl ?_
            cases h
            exact ev_wk (L := [some (.ref 157), some (.int v1), some (.int v2), some (.int (v3 + (1 : Int32)))]) hb ⟨rfl, ⟨rfl, ⟨rfl, ⟨rfl, trivial⟩⟩⟩⟩
          · rw [if_neg hc11] at h
            refine ev_zff rfl (cn_f hc11) ?_
            refine ev_rn (n := 1) (i2 := 46) (L2 := [some (.ref 157), some (.int v1), some (.int v2), some (.int v3)]) (st2 := [.int (0 : Int32)]) (g2 := g) cdE_187 rfl ?_
            cases h
            cases hb
            exact ev_ret rfl rfl
        · rw [if_neg hi9] at h
          cases h
      · rw [if_neg hi8] at h
        cases h
def f_Mo_bounded (p0 : Int32) (p1 : Int32) (g : M2) : Option (Int32 × M2) := (if (f_Mo_isBound p0 p1 g) = 0 then some ((-2 : Int32), g) else ((f_Mo_canNow g).bind fun q2 => (if q2.1 = 0 then some ((-2 : Int32), q2.2) else ((f_Mo_laysPowers q2.2).bind fun q4 => ((lp (fun s => b_Mo_bounded_13 p0 p1 s q4) 5000 (0 : Int32)).bind fun ue12 => Sum.elim (fun e12 => some ((1 : Int32), q4)) (fun re12 => some re12) ue12)))))
theorem e_Mo_bounded {Lx : Nat} (p0 : Int32) (p1 : Int32)  (g : M2) {b : (Int32 × M2)} (h : f_Mo_bounded p0 p1 g = some b) : Ev Lx 187 cd_187 0 [some (.ref 157), some (.int p0), some (.int p1)] [] g (some (.int b.1), b.2) := by
  unfold f_Mo_bounded at h
  refine ev_rn (n := 2) (i2 := 2) (L2 := [some (.ref 157), some (.int p0), some (.int p1)]) (st2 := [.int p1, .int p0]) (g2 := g) cdE_187 rfl ?_
  refine ev_call rfl cdE_159 rfl rfl rfl (e_Mo_isBound p0 p1  g rfl) ?_
  by_cases hc1 : (f_Mo_isBound p0 p1 g) = 0
  · rw [if_pos hc1] at h
    refine ev_zft cdE_187 rfl (cn_t hc1) ?_
    refine ev_rn (n := 1) (i2 := 8) (L2 := [some (.ref 157), some (.int p0), some (.int p1)]) (st2 := [.int (-2 : Int32)]) (g2 := g) cdE_187 rfl ?_
    cases h
    exact ev_ret rfl rfl
  · rw [if_neg hc1] at h
    refine ev_zff rfl (cn_f hc1) ?_
    refine ev_rn (n := 1) (i2 := 5) (L2 := [some (.ref 157), some (.int p0), some (.int p1)]) (st2 := [.ref 157]) (g2 := g) cdE_187 rfl ?_
    obtain ⟨q2, hq2, h⟩ := Option.bind_eq_some_iff.mp h
    refine ev_call rfl cdE_118 rfl rfl rfl (e_Mo_canNow   g hq2) ?_
    by_cases hc3 : q2.1 = 0
    · rw [if_pos hc3] at h
      refine ev_zff rfl (cn_f (fun q => q hc3)) ?_
      refine ev_rn (n := 1) (i2 := 8) (L2 := [some (.ref 157), some (.int p0), some (.int p1)]) (st2 := [.int (-2 : Int32)]) (g2 := q2.2) cdE_187 rfl ?_
      cases h
      exact ev_ret rfl rfl
    · rw [if_neg hc3] at h
      refine ev_zft cdE_187 rfl (cn_t hc3) ?_
      refine ev_rn (n := 1) (i2 := 10) (L2 := [some (.ref 157), some (.int p0), some (.int p1)]) (st2 := [.ref 157]) (g2 := q2.2) cdE_187 rfl ?_
      obtain ⟨q4, hq4, h⟩ := Option.bind_eq_some_iff.mp h
      refine ev_call rfl cdE_147 rfl rfl rfl (e_Mo_laysPowers   q2.2 hq4) ?_
      refine ev_rn (n := 2) (i2 := 13) (L2 := [some (.ref 157), some (.int p0), some (.int p1), some (.int (0 : Int32))]) (st2 := []) (g2 := q4) cdE_187 rfl ?_
      obtain ⟨ue12, he12, h⟩ := Option.bind_eq_some_iff.mp h
      cases ue12 with
      | inl e12 =>
        replace h := h
        have hX13 : Ev Lx 187 cd_187 49 [] [] q4 (some (.int b.1), b.2) := by
          simp only [Sum.elim_inl] at h
          refine ev_rn (n := 1) (i2 := 50) (L2 := []) (st2 := [.int (1 : Int32)]) (g2 := q4) cdE_187 rfl ?_
          cases h
          exact ev_ret rfl rfl
        exact ev_wk (L := [some (.ref 157), some (.int p0), some (.int p1), some (.int (0 : Int32))]) (lp_ind (P := (fun (s : Int32) => Ev Lx 187 cd_187 13 [some (.ref 157), some (.int p0), some (.int p1), some (.int s)] [] q4 (some (.int b.1), b.2))) (fun s s2 hs hP => tb_Mo_bounded_13 p0 p1  s q4 (b := .inl s2) hs hP) (fun s hs => tb_Mo_bounded_13 p0 p1  s q4 (b := .inr (.inl e12)) hs hX13) _ _ he12) ⟨rfl, ⟨rfl, ⟨rfl, ⟨rfl, trivial⟩⟩⟩⟩
      | inr re12 =>
        simp only [Sum.elim_inr] at h
        cases h
        exact ev_wk (L := [some (.ref 157), some (.int p0), some (.int p1), some (.int (0 : Int32))]) (lp_ind (P := (fun (s : Int32) => Ev Lx 187 cd_187 13 [some (.ref 157), some (.int p0), some (.int p1), some (.int s)] [] q4 (some (.int b.1), b.2))) (fun s s2 hs hP => tb_Mo_bounded_13 p0 p1  s q4 (b := .inl s2) hs hP) (fun s hs => tb_Mo_bounded_13 p0 p1  s q4 (b := .inr (.inr b)) hs rfl) _ _ he12) ⟨rfl, ⟨rfl, ⟨rfl, ⟨rfl, trivial⟩⟩⟩⟩
def f_Da_twins (p0 : Int32) (g : M2) : Option (Int32) := (if (f_Da_isDirection p0 g) = 0 then some (-2 : Int32) else ((f_Pl_twinBits 7 p0 g).bind fun q2 => some q2))
theorem e_Da_twins {Lx : Nat} (p0 : Int32)  (g : M2) {b : Int32} (h : f_Da_twins p0 g = some b) : Ev Lx 188 cd_188 0 [some (.ref 0), some (.int p0)] [] g (some (.int b), g) := by
  unfold f_Da_twins at h
  refine ev_rn (n := 1) (i2 := 1) (L2 := [some (.ref 0), some (.int p0)]) (st2 := [.int p0]) (g2 := g) cdE_188 rfl ?_
  refine ev_call rfl cdE_71 rfl rfl rfl (e_Da_isDirection p0  g rfl) ?_
  by_cases hc1 : (f_Da_isDirection p0 g) = 0
  · rw [if_pos hc1] at h
    refine ev_zft cdE_188 rfl (cn_t hc1) ?_
    refine ev_rn (n := 1) (i2 := 10) (L2 := [some (.ref 0), some (.int p0)]) (st2 := [.int (-2 : Int32)]) (g2 := g) cdE_188 rfl ?_
    cases h
    exact ev_ret rfl rfl
  · rw [if_neg hc1] at h
    refine ev_zff rfl (cn_f hc1) ?_
    refine ev_rn (n := 4) (i2 := 7) (L2 := [some (.ref 0), some (.int p0)]) (st2 := [.int p0, .ref 7]) (g2 := g) cdE_188 rfl ?_
    obtain ⟨q2, hq2, h⟩ := Option.bind_eq_some_iff.mp h
    refine ev_call rfl cdE_172 rfl rfl rfl (e_Pl_twinBits 7 p0 (by decide) g hq2) ?_
    refine ev_rn (n := 1) (i2 := 10) (L2 := [some (.ref 0), some (.int p0)]) (st2 := [.int q2]) (g2 := g) cdE_188 rfl ?_
    cases h
    exact ev_ret rfl rfl
def f_Mo_twins (p0 : Int32) (g : M2) : Option (Int32) := (if (f_Mo_isDirection p0 g) = 0 then some (-2 : Int32) else ((f_Mo_twinsOf p0 g).bind fun q2 => some q2))
theorem e_Mo_twins {Lx : Nat} (p0 : Int32)  (g : M2) {b : Int32} (h : f_Mo_twins p0 g = some b) : Ev Lx 189 cd_189 0 [some (.ref 157), some (.int p0)] [] g (some (.int b), g) := by
  unfold f_Mo_twins at h
  refine ev_rn (n := 1) (i2 := 1) (L2 := [some (.ref 157), some (.int p0)]) (st2 := [.int p0]) (g2 := g) cdE_189 rfl ?_
  refine ev_call rfl cdE_73 rfl rfl rfl (e_Mo_isDirection p0  g rfl) ?_
  by_cases hc1 : (f_Mo_isDirection p0 g) = 0
  · rw [if_pos hc1] at h
    refine ev_zft cdE_189 rfl (cn_t hc1) ?_
    refine ev_rn (n := 1) (i2 := 8) (L2 := [some (.ref 157), some (.int p0)]) (st2 := [.int (-2 : Int32)]) (g2 := g) cdE_189 rfl ?_
    cases h
    exact ev_ret rfl rfl
  · rw [if_neg hc1] at h
    refine ev_zff rfl (cn_f hc1) ?_
    refine ev_rn (n := 2) (i2 := 5) (L2 := [some (.ref 157), some (.int p0)]) (st2 := [.int p0, .ref 157]) (g2 := g) cdE_189 rfl ?_
    obtain ⟨q2, hq2, h⟩ := Option.bind_eq_some_iff.mp h
    refine ev_call rfl cdE_176 rfl rfl rfl (e_Mo_twinsOf p0  g hq2) ?_
    refine ev_rn (n := 1) (i2 := 8) (L2 := [some (.ref 157), some (.int p0)]) (st2 := [.int q2]) (g2 := g) cdE_189 rfl ?_
    cases h
    exact ev_ret rfl rfl
def b_Da_sets_4  (v1 : Int32) (v2 : Int32) (g : M2) : Option ((Int32 × Int32) ⊕ Int32) := (if (12 : Int32) ≤ v2 then some (.inr v1) else ((f_Pl_twinBits 7 v2 g).bind fun q2 => (if (q2 &&& (((1 : Int32) <<< (v2 &&& 31)) - (1 : Int32))) = 0 then some (.inl ((v1 + (1 : Int32)), (v2 + (1 : Int32)))) else some (.inl (v1, (v2 + (1 : Int32)))))))
theorem tb_Da_sets_4 {Lx : Nat}   (v1 : Int32) (v2 : Int32) (g : M2) {b : (Int32 × Int32) ⊕ Int32} {o : Option Value × M2} (h : b_Da_sets_4 v1 v2 g = some b) (hb : Sum.elim (fun s => Ev Lx 190 cd_190 4 [some (.ref 0), some (.int s.1), some (.int s.2)] [] g o) (fun e => Ev Lx 190 cd_190 22 [none, some (.int e)] [] g o) b) : Ev Lx 190 cd_190 4 [some (.ref 0), some (.int v1), some (.int v2)] [] g o := by
  unfold b_Da_sets_4 at h
  refine ev_rn (n := 2) (i2 := 6) (L2 := [some (.ref 0), some (.int v1), some (.int v2)]) (st2 := [.int (12 : Int32), .int v2]) (g2 := g) cdE_190 rfl ?_
  by_cases hc1 : (12 : Int32) ≤ v2
  · rw [if_pos hc1] at h
    refine ev_ift cdE_190 rfl (cn_t hc1) ?_
    cases h
    exact ev_wk (L := [none, some (.int v1)]) hb ⟨rfl, trivial⟩
  · rw [if_neg hc1] at h
    refine ev_iff rfl (cn_f hc1) ?_
    refine ev_rn (n := 4) (i2 := 11) (L2 := [some (.ref 0), some (.int v1), some (.int v2)]) (st2 := [.int v2, .ref 7]) (g2 := g) cdE_190 rfl ?_
    obtain ⟨q2, hq2, h⟩ := Option.bind_eq_some_iff.mp h
    refine ev_call rfl cdE_172 rfl rfl rfl (e_Pl_twinBits 7 v2 (by decide) g hq2) ?_
    refine ev_rn (n := 6) (i2 := 18) (L2 := [some (.ref 0), some (.int v1), some (.int v2)]) (st2 := [.int (q2 &&& (((1 : Int32) <<< (v2 &&& 31)) - (1 : Int32)))]) (g2 := g) cdE_190 rfl ?_
    by_cases hc3 : (q2 &&& (((1 : Int32) <<< (v2 &&& 31)) - (1 : Int32))) = 0
    · rw [if_pos hc3] at h
      refine ev_zff rfl (cn_f (fun q => q hc3)) ?_
      refine ev_rn (n := 2) (i2 := 21) (L2 := [some (.ref 0), some (.int (v1 + (1 : Int32))), some (.int (v2 + (1 : Int32)))]) (st2 := []) (g2 := g) cdE_190 rfl ?_
      refine ev_rn (n := 1) (i2 := 4) (L2 := [some (.ref 0), some (.int (v1 + (1 : Int32))), some (.int (v2 + (1 : Int32)))]) (st2 := []) (g2 := g) cdE_190 rfl ?_
      cases h
      exact ev_wk (L := [some (.ref 0), some (.int (v1 + (1 : Int32))), some (.int (v2 + (1 : Int32)))]) hb ⟨rfl, ⟨rfl, ⟨rfl, trivial⟩⟩⟩
    · rw [if_neg hc3] at h
      refine ev_zft cdE_190 rfl (cn_t hc3) ?_
      refine ev_rn (n := 2) (i2 := 4) (L2 := [some (.ref 0), some (.int v1), some (.int (v2 + (1 : Int32)))]) (st2 := []) (g2 := g) cdE_190 rfl ?_
      cases h
      exact ev_wk (L := [some (.ref 0), some (.int v1), some (.int (v2 + (1 : Int32)))]) hb ⟨rfl, ⟨rfl, ⟨rfl, trivial⟩⟩⟩
def f_Da_sets  (g : M2) : Option (Int32) := ((lp (fun s => b_Da_sets_4  s.1 s.2 g) 5000 ((0 : Int32), (0 : Int32))).bind fun e4 => some e4)
theorem e_Da_sets {Lx : Nat}   (g : M2) {b : Int32} (h : f_Da_sets  g = some b) : Ev Lx 190 cd_190 0 [some (.ref 0)] [] g (some (.int b), g) := by
  unfold f_Da_sets at h
  refine ev_rn (n := 4) (i2 := 4) (L2 := [some (.ref 0), some (.int (0 : Int32)), some (.int (0 : Int32))]) (st2 := []) (g2 := g) cdE_190 rfl ?_
  obtain ⟨e4, he4, h⟩ := Option.bind_eq_some_iff.mp h
  have hX5 : Ev Lx 190 cd_190 22 [none, some (.int e4)] [] g (some (.int b), g) := by
    refine ev_rn (n := 1) (i2 := 23) (L2 := [none, some (.int e4)]) (st2 := [.int e4]) (g2 := g) cdE_190 rfl ?_
    cases h
    exact ev_ret rfl rfl
  exact ev_wk (L := [some (.ref 0), some (.int (0 : Int32)), some (.int (0 : Int32))]) (lp_ind (P := (fun (s : (Int32 × Int32)) => Ev Lx 190 cd_190 4 [some (.ref 0), some (.int s.1), some (.int s.2)] [] g (some (.int b), g))) (fun s s2 hs hP => tb_Da_sets_4   s.1 s.2 g (b := .inl s2) hs hP) (fun s hs => tb_Da_sets_4   s.1 s.2 g (b := .inr e4) hs hX5) _ _ he4) ⟨rfl, ⟨rfl, ⟨rfl, trivial⟩⟩⟩
def j_In_numberOfTrailingZeros_40 (v0 : Int32) (v1 : Int32) (g : M2) : Int32 := (if v0 ≤ (4 : Int32) then (v1 + (v0.toUInt32 >>> ((1 : Int32).toUInt32 &&& Int32.toUInt32 31)).toInt32) else ((v1 + (2 : Int32)) + ((v0.toUInt32 >>> ((2 : Int32).toUInt32 &&& Int32.toUInt32 31)).toInt32.toUInt32 >>> ((1 : Int32).toUInt32 &&& Int32.toUInt32 31)).toInt32))
theorem tj_In_numberOfTrailingZeros_40 {Lx : Nat}  (v0 : Int32) (v1 : Int32)  (g : M2) {b : Int32} (h : j_In_numberOfTrailingZeros_40 v0 v1 g = b) : Ev Lx 191 cd_191 40 [some (.int v0), some (.int v1)] [] g (some (.int b), g) := by
  unfold j_In_numberOfTrailingZeros_40 at h
  refine ev_rn (n := 2) (i2 := 42) (L2 := [some (.int v0), some (.int v1)]) (st2 := [.int (4 : Int32), .int v0]) (g2 := g) cdE_191 rfl ?_
  by_cases hc5 : v0 ≤ (4 : Int32)
  · rw [if_pos hc5] at h
    refine ev_ift cdE_191 rfl (cn_t hc5) ?_
    refine ev_rn (n := 5) (i2 := 53) (L2 := [some (.int v0), some (.int v1)]) (st2 := [.int (v1 + (v0.toUInt32 >>> ((1 : Int32).toUInt32 &&& Int32.toUInt32 31)).toInt32)]) (g2 := g) cdE_191 rfl ?_
    subst h
    exact ev_ret rfl rfl
  · rw [if_neg hc5] at h
    refine ev_iff rfl (cn_f hc5) ?_
    refine ev_rn (n := 5) (i2 := 48) (L2 := [some (.int (v0.toUInt32 >>> ((2 : Int32).toUInt32 &&& Int32.toUInt32 31)).toInt32), some (.int (v1 + (2 : Int32)))]) (st2 := []) (g2 := g) cdE_191 rfl ?_
    refine ev_rn (n := 5) (i2 := 53) (L2 := [some (.int (v0.toUInt32 >>> ((2 : Int32).toUInt32 &&& Int32.toUInt32 31)).toInt32), some (.int (v1 + (2 : Int32)))]) (st2 := [.int ((v1 + (2 : Int32)) + ((v0.toUInt32 >>> ((2 : Int32).toUInt32 &&& Int32.toUInt32 31)).toInt32.toUInt32 >>> ((1 : Int32).toUInt32 &&& Int32.toUInt32 31)).toInt32)]) (g2 := g) cdE_191 rfl ?_
    subst h
    exact ev_ret rfl rfl
def j_In_numberOfTrailingZeros_32 (v0 : Int32) (v1 : Int32) (g : M2) : Int32 := (if v0 ≤ (16 : Int32) then (j_In_numberOfTrailingZeros_40 v0 v1 g) else (j_In_numberOfTrailingZeros_40 (v0.toUInt32 >>> ((4 : Int32).toUInt32 &&& Int32.toUInt32 31)).toInt32 (v1 + (4 : Int32)) g))
theorem tj_In_numberOfTrailingZeros_32 {Lx : Nat}  (v0 : Int32) (v1 : Int32)  (g : M2) {b : Int32} (h : j_In_numberOfTrailingZeros_32 v0 v1 g = b) : Ev Lx 191 cd_191 32 [some (.int v0), some (.int v1)] [] g (some (.int b), g) := by
  unfold j_In_numberOfTrailingZeros_32 at h
  refine ev_rn (n := 2) (i2 := 34) (L2 := [some (.int v0), some (.int v1)]) (st2 := [.int (16 : Int32), .int v0]) (g2 := g) cdE_191 rfl ?_
  by_cases hc4 : v0 ≤ (16 : Int32)
  · rw [if_pos hc4] at h
    refine ev_ift cdE_191 rfl (cn_t hc4) ?_
    exact ev_wk (L := [some (.int v0), some (.int v1)]) (tj_In_numberOfTrailingZeros_40  v0 v1  g h) ⟨rfl, ⟨rfl, trivial⟩⟩
  · rw [if_neg hc4] at h
    refine ev_iff rfl (cn_f hc4) ?_
    refine ev_rn (n := 5) (i2 := 40) (L2 := [some (.int (v0.toUInt32 >>> ((4 : Int32).toUInt32 &&& Int32.toUInt32 31)).toInt32), some (.int (v1 + (4 : Int32)))]) (st2 := []) (g2 := g) cdE_191 rfl ?_
    exact ev_wk (L := [some (.int (v0.toUInt32 >>> ((4 : Int32).toUInt32 &&& Int32.toUInt32 31)).toInt32), some (.int (v1 + (4 : Int32)))]) (tj_In_numberOfTrailingZeros_40  (v0.toUInt32 >>> ((4 : Int32).toUInt32 &&& Int32.toUInt32 31)).toInt32 (v1 + (4 : Int32))  g h) ⟨rfl, ⟨rfl, trivial⟩⟩
def j_In_numberOfTrailingZeros_24 (v0 : Int32) (v1 : Int32) (g : M2) : Int32 := (if v0 ≤ (256 : Int32) then (j_In_numberOfTrailingZeros_32 v0 v1 g) else (j_In_numberOfTrailingZeros_32 (v0.toUInt32 >>> ((8 : Int32).toUInt32 &&& Int32.toUInt32 31)).toInt32 (v1 + (8 : Int32)) g))
theorem tj_In_numberOfTrailingZeros_24 {Lx : Nat}  (v0 : Int32) (v1 : Int32)  (g : M2) {b : Int32} (h : j_In_numberOfTrailingZeros_24 v0 v1 g = b) : Ev Lx 191 cd_191 24 [some (.int v0), some (.int v1)] [] g (some (.int b), g) := by
  unfold j_In_numberOfTrailingZeros_24 at h
  refine ev_rn (n := 2) (i2 := 26) (L2 := [some (.int v0), some (.int v1)]) (st2 := [.int (256 : Int32), .int v0]) (g2 := g) cdE_191 rfl ?_
  by_cases hc3 : v0 ≤ (256 : Int32)
  · rw [if_pos hc3] at h
    refine ev_ift cdE_191 rfl (cn_t hc3) ?_
    exact ev_wk (L := [some (.int v0), some (.int v1)]) (tj_In_numberOfTrailingZeros_32  v0 v1  g h) ⟨rfl, ⟨rfl, trivial⟩⟩
  · rw [if_neg hc3] at h
    refine ev_iff rfl (cn_f hc3) ?_
    refine ev_rn (n := 5) (i2 := 32) (L2 := [some (.int (v0.toUInt32 >>> ((8 : Int32).toUInt32 &&& Int32.toUInt32 31)).toInt32), some (.int (v1 + (8 : Int32)))]) (st2 := []) (g2 := g) cdE_191 rfl ?_
    exact ev_wk (L := [some (.int (v0.toUInt32 >>> ((8 : Int32).toUInt32 &&& Int32.toUInt32 31)).toInt32), some (.int (v1 + (8 : Int32)))]) (tj_In_numberOfTrailingZeros_32  (v0.toUInt32 >>> ((8 : Int32).toUInt32 &&& Int32.toUInt32 31)).toInt32 (v1 + (8 : Int32))  g h) ⟨rfl, ⟨rfl, trivial⟩⟩
def f_In_numberOfTrailingZeros (p0 : Int32) (g : M2) : Int32 := (if 0 < ((p0 ^^^ (-1 : Int32)) &&& (p0 - (1 : Int32))) then (if ((p0 ^^^ (-1 : Int32)) &&& (p0 - (1 : Int32))) ≤ (65536 : Int32) then (j_In_numberOfTrailingZeros_24 ((p0 ^^^ (-1 : Int32)) &&& (p0 - (1 : Int32))) (1 : Int32) g) else (j_In_numberOfTrailingZeros_24 (((p0 ^^^ (-1 : Int32)) &&& (p0 - (1 : Int32))).toUInt32 >>> ((16 : Int32).toUInt32 &&& Int32.toUInt32 31)).toInt32 ((1 : Int32) + (16 : Int32)) g)) else (((p0 ^^^ (-1 : Int32)) &&& (p0 - (1 : Int32))) &&& (32 : Int32)))
theorem e_In_numberOfTrailingZeros {Lx : Nat} (p0 : Int32)  (g : M2) {b : Int32} (h : f_In_numberOfTrailingZeros p0 g = b) : Ev Lx 191 cd_191 0 [some (.int p0)] [] g (some (.int b), g) := by
  unfold f_In_numberOfTrailingZeros at h
  refine ev_rn (n := 9) (i2 := 9) (L2 := [some (.int ((p0 ^^^ (-1 : Int32)) &&& (p0 - (1 : Int32))))]) (st2 := [.int ((p0 ^^^ (-1 : Int32)) &&& (p0 - (1 : Int32)))]) (g2 := g) cdE_191 rfl ?_
  by_cases hc1 : 0 < ((p0 ^^^ (-1 : Int32)) &&& (p0 - (1 : Int32)))
  · rw [if_pos hc1] at h
    refine ev_zft cdE_191 rfl (cn_t hc1) ?_
    refine ev_rn (n := 4) (i2 := 18) (L2 := [some (.int ((p0 ^^^ (-1 : Int32)) &&& (p0 - (1 : Int32)))), some (.int (1 : Int32))]) (st2 := [.int (65536 : Int32), .int ((p0 ^^^ (-1 : Int32)) &&& (p0 - (1 : Int32)))]) (g2 := g) cdE_191 rfl ?_
    by_cases hc2 : ((p0 ^^^ (-1 : Int32)) &&& (p0 - (1 : Int32))) ≤ (65536 : Int32)
    · rw [if_pos hc2] at h
      refine ev_ift cdE_191 rfl (cn_t hc2) ?_
      exact ev_wk (L := [some (.int ((p0 ^^^ (-1 : Int32)) &&& (p0 - (1 : Int32)))), some (.int (1 : Int32))]) (tj_In_numberOfTrailingZeros_24  ((p0 ^^^ (-1 : Int32)) &&& (p0 - (1 : Int32))) (1 : Int32)  g h) ⟨rfl, ⟨rfl, trivial⟩⟩
    · rw [if_neg hc2] at h
      refine ev_iff rfl (cn_f hc2) ?_
      refine ev_rn (n := 5) (i2 := 24) (L2 := [some (.int (((p0 ^^^ (-1 : Int32)) &&& (p0 - (1 : Int32))).toUInt32 >>> ((16 : Int32).toUInt32 &&& Int32.toUInt32 31)).toInt32), some (.int ((1 : Int32) + (16 : Int32)))]) (st2 := []) (g2 := g) cdE_191 rfl ?_
      exact ev_wk (L := [some (.int (((p0 ^^^ (-1 : Int32)) &&& (p0 - (1 : Int32))).toUInt32 >>> ((16 : Int32).toUInt32 &&& Int32.toUInt32 31)).toInt32), some (.int ((1 : Int32) + (16 : Int32)))]) (tj_In_numberOfTrailingZeros_24  (((p0 ^^^ (-1 : Int32)) &&& (p0 - (1 : Int32))).toUInt32 >>> ((16 : Int32).toUInt32 &&& Int32.toUInt32 31)).toInt32 ((1 : Int32) + (16 : Int32))  g h) ⟨rfl, ⟨rfl, trivial⟩⟩
  · rw [if_neg hc1] at h
    refine ev_zff rfl (cn_f hc1) ?_
    refine ev_rn (n := 3) (i2 := 13) (L2 := [some (.int ((p0 ^^^ (-1 : Int32)) &&& (p0 - (1 : Int32))))]) (st2 := [.int (((p0 ^^^ (-1 : Int32)) &&& (p0 - (1 : Int32))) &&& (32 : Int32))]) (g2 := g) cdE_191 rfl ?_
    subst h
    exact ev_ret rfl rfl
