def f_Da_isAmong (p0 : Int32) (p1 : Int32) (g : M2) : Int32 := (if p0 < 0 then (0 : Int32) else (if p1 ≤ p0 then (0 : Int32) else (1 : Int32)))
theorem e_Da_isAmong {Lx : Nat} (p0 : Int32) (p1 : Int32)  (g : M2) {b : Int32} (h : f_Da_isAmong p0 p1 g = b) : Ev Lx 65 cd_65 0 [some (.int p0), some (.int p1)] [] g (some (.int b), g) := by
  unfold f_Da_isAmong at h
  refine ev_rn (n := 1) (i2 := 1) (L2 := [some (.int p0), some (.int p1)]) (st2 := [.int p0]) (g2 := g) cdE_65 rfl ?_
  by_cases hc1 : p0 < 0
  · rw [if_pos hc1] at h
    refine ev_zft cdE_65 rfl (cn_t hc1) ?_
    refine ev_rn (n := 1) (i2 := 8) (L2 := [some (.int p0), some (.int p1)]) (st2 := [.int (0 : Int32)]) (g2 := g) cdE_65 rfl ?_
    subst h
    exact ev_ret rfl rt_0
  · rw [if_neg hc1] at h
    refine ev_zff rfl (cn_f hc1) ?_
    refine ev_rn (n := 2) (i2 := 4) (L2 := [some (.int p0), some (.int p1)]) (st2 := [.int p1, .int p0]) (g2 := g) cdE_65 rfl ?_
    by_cases hc2 : p1 ≤ p0
    · rw [if_pos hc2] at h
      refine ev_ift cdE_65 rfl (cn_t hc2) ?_
      refine ev_rn (n := 1) (i2 := 8) (L2 := [some (.int p0), some (.int p1)]) (st2 := [.int (0 : Int32)]) (g2 := g) cdE_65 rfl ?_
      subst h
      exact ev_ret rfl rt_0
    · rw [if_neg hc2] at h
      refine ev_iff rfl (cn_f hc2) ?_
      refine ev_rn (n := 2) (i2 := 8) (L2 := [some (.int p0), some (.int p1)]) (st2 := [.int (1 : Int32)]) (g2 := g) cdE_65 rfl ?_
      subst h
      exact ev_ret rfl rt_1
def f_Pl_has (a0 : Nat) (p0 : Int32) (g : M2) : Int32 := ((f_Da_isAmong p0 (g.1 a0 2) g) &&& 1)
theorem e_Pl_has {Lx : Nat} (a0 : Nat) (p0 : Int32) (ha0 : IsPlan a0) (g : M2) {b : Int32} (h : f_Pl_has a0 p0 g = b) : Ev Lx 66 cd_66 0 [some (.ref a0), some (.int p0)] [] g (some (.int b), g) := by
  unfold f_Pl_has at h
  refine ev_rn (n := 2) (i2 := 2) (L2 := [some (.ref a0), some (.int p0)]) (st2 := [.ref a0, .int p0]) (g2 := g) cdE_66 rfl ?_
  refine ev_gf (v := .int (g.1 a0 2)) rfl (pl_at ha0) (by decide) rfl ?_
  refine ev_call rfl cdE_65 rfl rfl rfl (e_Da_isAmong p0 (g.1 a0 2)  g rfl) ?_
  subst h
  exact ev_ret rfl rfl
def f_Pl_works (a0 : Nat) (p0 : Int32) (g : M2) : Int32 := (if (((g.1 a0 3) >>> (p0 &&& 31)) &&& (1 : Int32)) = 0 then (1 : Int32) else (0 : Int32))
theorem e_Pl_works {Lx : Nat} (a0 : Nat) (p0 : Int32) (ha0 : IsPlan a0) (g : M2) {b : Int32} (h : f_Pl_works a0 p0 g = b) : Ev Lx 67 cd_67 0 [some (.ref a0), some (.int p0)] [] g (some (.int b), g) := by
  unfold f_Pl_works at h
  refine ev_rn (n := 1) (i2 := 1) (L2 := [some (.ref a0), some (.int p0)]) (st2 := [.ref a0]) (g2 := g) cdE_67 rfl ?_
  refine ev_gf (v := .int (g.1 a0 3)) rfl (pl_at ha0) (by decide) rfl ?_
  refine ev_rn (n := 4) (i2 := 6) (L2 := [some (.ref a0), some (.int p0)]) (st2 := [.int (((g.1 a0 3) >>> (p0 &&& 31)) &&& (1 : Int32))]) (g2 := g) cdE_67 rfl ?_
  by_cases hc1 : (((g.1 a0 3) >>> (p0 &&& 31)) &&& (1 : Int32)) = 0
  · rw [if_pos hc1] at h
    refine ev_zff rfl (cn_f (fun q => q hc1)) ?_
    refine ev_rn (n := 2) (i2 := 10) (L2 := [some (.ref a0), some (.int p0)]) (st2 := [.int (1 : Int32)]) (g2 := g) cdE_67 rfl ?_
    subst h
    exact ev_ret rfl rt_1
  · rw [if_neg hc1] at h
    refine ev_zft cdE_67 rfl (cn_t hc1) ?_
    refine ev_rn (n := 1) (i2 := 10) (L2 := [some (.ref a0), some (.int p0)]) (st2 := [.int (0 : Int32)]) (g2 := g) cdE_67 rfl ?_
    subst h
    exact ev_ret rfl rt_0
def f_Da_element (p0 : Int32) (p1 : Int32) (g : M2) : Option (Int32) := (if (f_Pl_has 7 p0 g) = 0 then some (-2 : Int32) else (if (f_Da_isAmong p1 (2 : Int32) g) = 0 then some (-2 : Int32) else (if p1 = 0 then (if inb p0 5 then some (g.1 8 p0.toNatClampNeg) else none) else (if (f_Pl_works 7 p0 g) = 0 then some (1 : Int32) else some (0 : Int32)))))
theorem e_Da_element {Lx : Nat} (p0 : Int32) (p1 : Int32)  (g : M2) {b : Int32} (h : f_Da_element p0 p1 g = some b) : Ev Lx 68 cd_68 0 [some (.ref 0), some (.int p0), some (.int p1)] [] g (some (.int b), g) := by
  unfold f_Da_element at h
  refine ev_rn (n := 4) (i2 := 4) (L2 := [some (.ref 0), some (.int p0), some (.int p1)]) (st2 := [.int p0, .ref 7]) (g2 := g) cdE_68 rfl ?_
  refine ev_call rfl cdE_66 rfl rfl rfl (e_Pl_has 7 p0 (by decide) g rfl) ?_
  by_cases hc1 : (f_Pl_has 7 p0 g) = 0
  · rw [if_pos hc1] at h
    refine ev_zft cdE_68 rfl (cn_t hc1) ?_
    refine ev_rn (n := 1) (i2 := 11) (L2 := [some (.ref 0), some (.int p0), some (.int p1)]) (st2 := [.int (-2 : Int32)]) (g2 := g) cdE_68 rfl ?_
    cases h
    exact ev_ret rfl rfl
  · rw [if_neg hc1] at h
    refine ev_zff rfl (cn_f hc1) ?_
    refine ev_rn (n := 2) (i2 := 8) (L2 := [some (.ref 0), some (.int p0), some (.int p1)]) (st2 := [.int (2 : Int32), .int p1]) (g2 := g) cdE_68 rfl ?_
    refine ev_call rfl cdE_65 rfl rfl rfl (e_Da_isAmong p1 (2 : Int32)  g rfl) ?_
    by_cases hc2 : (f_Da_isAmong p1 (2 : Int32) g) = 0
    · rw [if_pos hc2] at h
      refine ev_zff rfl (cn_f (fun q => q hc2)) ?_
      refine ev_rn (n := 1) (i2 := 11) (L2 := [some (.ref 0), some (.int p0), some (.int p1)]) (st2 := [.int (-2 : Int32)]) (g2 := g) cdE_68 rfl ?_
      cases h
      exact ev_ret rfl rfl
    · rw [if_neg hc2] at h
      refine ev_zft cdE_68 rfl (cn_t hc2) ?_
      refine ev_rn (n := 1) (i2 := 13) (L2 := [some (.ref 0), some (.int p0), some (.int p1)]) (st2 := [.int p1]) (g2 := g) cdE_68 rfl ?_
      by_cases hc3 : p1 = 0
      · rw [if_pos hc3] at h
        refine ev_zff rfl (cn_f (fun q => q hc3)) ?_
        refine ev_rn (n := 5) (i2 := 19) (L2 := [some (.ref 0), some (.int p0), some (.int p1)]) (st2 := [.int p0, .ref 8]) (g2 := g) cdE_68 rfl ?_
        by_cases hi5 : inb p0 5
        · rw [if_pos hi5] at h
          refine ev_iaload (v := .int (g.1 8 p0.toNatClampNeg)) rfl (kd_of (show S0[8]? = some (100, 5, List.replicate 5 none) from rfl)) (by decide) hi5 rfl ?_
          cases h
          exact ev_ret rfl rfl
        · rw [if_neg hi5] at h
          cases h
      · rw [if_neg hc3] at h
        refine ev_zft cdE_68 rfl (cn_t hc3) ?_
        refine ev_rn (n := 4) (i2 := 25) (L2 := [some (.ref 0), some (.int p0), some (.int p1)]) (st2 := [.int p0, .ref 7]) (g2 := g) cdE_68 rfl ?_
        refine ev_call rfl cdE_67 rfl rfl rfl (e_Pl_works 7 p0 (by decide) g rfl) ?_
        by_cases hc4 : (f_Pl_works 7 p0 g) = 0
        · rw [if_pos hc4] at h
          refine ev_zft cdE_68 rfl (cn_t hc4) ?_
          refine ev_rn (n := 1) (i2 := 30) (L2 := [some (.ref 0), some (.int p0), some (.int p1)]) (st2 := [.int (1 : Int32)]) (g2 := g) cdE_68 rfl ?_
          cases h
          exact ev_ret rfl rfl
        · rw [if_neg hc4] at h
          refine ev_zff rfl (cn_f hc4) ?_
          refine ev_rn (n := 2) (i2 := 30) (L2 := [some (.ref 0), some (.int p0), some (.int p1)]) (st2 := [.int (0 : Int32)]) (g2 := g) cdE_68 rfl ?_
          cases h
          exact ev_ret rfl rfl
def f_Mo_isElement (p0 : Int32) (g : M2) : Option (Int32) := some ((f_Mo_in p0.toInt64 (0 : Int64) ((g.1 160 1) - (1 : Int32)).toInt64 g) &&& 1)
theorem e_Mo_isElement {Lx : Nat} (p0 : Int32)  (g : M2) {b : Int32} (h : f_Mo_isElement p0 g = some b) : Ev Lx 69 cd_69 0 [some (.ref 157), some (.int p0)] [] g (some (.int b), g) := by
  unfold f_Mo_isElement at h
  refine ev_rn (n := 6) (i2 := 6) (L2 := [some (.ref 157), some (.int p0)]) (st2 := [.int (1 : Int32), .ref 160, .long (0 : Int64), .long p0.toInt64]) (g2 := g) cdE_69 rfl ?_
  refine ev_iaload (v := .int (g.1 160 1)) rfl (kd_of (show S0[160]? = some (100, 19, List.replicate 19 none) from rfl)) (by decide) ⟨by decide, by decide⟩ rfl ?_
  refine ev_rn (n := 3) (i2 := 10) (L2 := [some (.ref 157), some (.int p0)]) (st2 := [.long ((g.1 160 1) - (1 : Int32)).toInt64, .long (0 : Int64), .long p0.toInt64]) (g2 := g) cdE_69 rfl ?_
  refine ev_call rfl cdE_16 rfl rfl rfl (e_Mo_in p0.toInt64 (0 : Int64) ((g.1 160 1) - (1 : Int32)).toInt64  g rfl) ?_
  cases h
  exact ev_ret rfl rfl
def f_Mo_element (p0 : Int32) (p1 : Int32) (g : M2) : Option (Int32) := ((f_Mo_isElement p0 g).bind fun q1 => (if q1 = 0 then some (-2 : Int32) else (if (f_Mo_in p1.toInt64 (0 : Int64) (1 : Int64) g) = 0 then some (-2 : Int32) else (if p1 = 0 then (if inb ((2 : Int32) + p0) 19 then some (g.1 160 ((2 : Int32) + p0).toNatClampNeg) else none) else (if inb ((7 : Int32) + p0) 19 then some (g.1 160 ((7 : Int32) + p0).toNatClampNeg) else none)))))
theorem e_Mo_element {Lx : Nat} (p0 : Int32) (p1 : Int32)  (g : M2) {b : Int32} (h : f_Mo_element p0 p1 g = some b) : Ev Lx 70 cd_70 0 [some (.ref 157), some (.int p0), some (.int p1)] [] g (some (.int b), g) := by
  unfold f_Mo_element at h
  refine ev_rn (n := 2) (i2 := 2) (L2 := [some (.ref 157), some (.int p0), some (.int p1)]) (st2 := [.int p0, .ref 157]) (g2 := g) cdE_70 rfl ?_
  obtain ⟨q1, hq1, h⟩ := Option.bind_eq_some_iff.mp h
  refine ev_call rfl cdE_69 rfl rfl rfl (e_Mo_isElement p0  g hq1) ?_
  by_cases hc2 : q1 = 0
  · rw [if_pos hc2] at h
    refine ev_zft cdE_70 rfl (cn_t hc2) ?_
    refine ev_rn (n := 1) (i2 := 22) (L2 := [some (.ref 157), some (.int p0), some (.int p1)]) (st2 := [.int (-2 : Int32)]) (g2 := g) cdE_70 rfl ?_
    cases h
    exact ev_ret rfl rfl
  · rw [if_neg hc2] at h
    refine ev_zff rfl (cn_f hc2) ?_
    refine ev_rn (n := 4) (i2 := 8) (L2 := [some (.ref 157), some (.int p0), some (.int p1)]) (st2 := [.long (1 : Int64), .long (0 : Int64), .long p1.toInt64]) (g2 := g) cdE_70 rfl ?_
    refine ev_call rfl cdE_16 rfl rfl rfl (e_Mo_in p1.toInt64 (0 : Int64) (1 : Int64)  g rfl) ?_
    by_cases hc3 : (f_Mo_in p1.toInt64 (0 : Int64) (1 : Int64) g) = 0
    · rw [if_pos hc3] at h
      refine ev_zft cdE_70 rfl (cn_t hc3) ?_
      refine ev_rn (n := 1) (i2 := 22) (L2 := [some (.ref 157), some (.int p0), some (.int p1)]) (st2 := [.int (-2 : Int32)]) (g2 := g) cdE_70 rfl ?_
      cases h
      exact ev_ret rfl rfl
    · rw [if_neg hc3] at h
      refine ev_zff rfl (cn_f hc3) ?_
      refine ev_rn (n := 3) (i2 := 13) (L2 := [some (.ref 157), some (.int p0), some (.int p1)]) (st2 := [.int p1, .ref 160]) (g2 := g) cdE_70 rfl ?_
      by_cases hc4 : p1 = 0
      · rw [if_pos hc4] at h
        refine ev_zff rfl (cn_f (fun q => q hc4)) ?_
        refine ev_rn (n := 4) (i2 := 19) (L2 := [some (.ref 157), some (.int p0), some (.int p1)]) (st2 := [.int ((2 : Int32) + p0), .ref 160]) (g2 := g) cdE_70 rfl ?_
        by_cases hi6 : inb ((2 : Int32) + p0) 19
        · rw [if_pos hi6] at h
          refine ev_iaload (v := .int (g.1 160 ((2 : Int32) + p0).toNatClampNeg)) rfl (kd_of (show S0[160]? = some (100, 19, List.replicate 19 none) from rfl)) (by decide) hi6 rfl ?_
          refine ev_rn (n := 1) (i2 := 22) (L2 := [some (.ref 157), some (.int p0), some (.int p1)]) (st2 := [.int (g.1 160 ((2 : Int32) + p0).toNatClampNeg)]) (g2 := g) cdE_70 rfl ?_
          cases h
          exact ev_ret rfl rfl
        · rw [if_neg hi6] at h
          cases h
      · rw [if_neg hc4] at h
        refine ev_zft cdE_70 rfl (cn_t hc4) ?_
        refine ev_rn (n := 3) (i2 := 19) (L2 := [some (.ref 157), some (.int p0), some (.int p1)]) (st2 := [.int ((7 : Int32) + p0), .ref 160]) (g2 := g) cdE_70 rfl ?_
        by_cases hi5 : inb ((7 : Int32) + p0) 19
        · rw [if_pos hi5] at h
          refine ev_iaload (v := .int (g.1 160 ((7 : Int32) + p0).toNatClampNeg)) rfl (kd_of (show S0[160]? = some (100, 19, List.replicate 19 none) from rfl)) (by decide) hi5 rfl ?_
          refine ev_rn (n := 1) (i2 := 22) (L2 := [some (.ref 157), some (.int p0), some (.int p1)]) (st2 := [.int (g.1 160 ((7 : Int32) + p0).toNatClampNeg)]) (g2 := g) cdE_70 rfl ?_
          cases h
          exact ev_ret rfl rfl
        · rw [if_neg hi5] at h
          cases h
def f_Da_isDirection (p0 : Int32) (g : M2) : Int32 := ((f_Da_isAmong p0 (12 : Int32) g) &&& 1)
theorem e_Da_isDirection {Lx : Nat} (p0 : Int32)  (g : M2) {b : Int32} (h : f_Da_isDirection p0 g = b) : Ev Lx 71 cd_71 0 [some (.int p0)] [] g (some (.int b), g) := by
  unfold f_Da_isDirection at h
  refine ev_rn (n := 2) (i2 := 2) (L2 := [some (.int p0)]) (st2 := [.int (12 : Int32), .int p0]) (g2 := g) cdE_71 rfl ?_
  refine ev_call rfl cdE_65 rfl rfl rfl (e_Da_isAmong p0 (12 : Int32)  g rfl) ?_
  subst h
  exact ev_ret rfl rfl
def f_Da_hears (p0 : Int32) (p1 : Int32) (g : M2) : Option (Int32) := (if (f_Pl_has 7 p0 g) = 0 then some (-2 : Int32) else (if (f_Da_isDirection p1 g) = 0 then some (-2 : Int32) else (if inb p0 5 then some ((p1 * (g.1 8 p0.toNatClampNeg)) - (p1 * (g.1 8 p0.toNatClampNeg)) / (12 : Int32) * (12 : Int32)) else none)))
theorem e_Da_hears {Lx : Nat} (p0 : Int32) (p1 : Int32)  (g : M2) {b : Int32} (h : f_Da_hears p0 p1 g = some b) : Ev Lx 72 cd_72 0 [some (.ref 0), some (.int p0), some (.int p1)] [] g (some (.int b), g) := by
  unfold f_Da_hears at h
  refine ev_rn (n := 4) (i2 := 4) (L2 := [some (.ref 0), some (.int p0), some (.int p1)]) (st2 := [.int p0, .ref 7]) (g2 := g) cdE_72 rfl ?_
  refine ev_call rfl cdE_66 rfl rfl rfl (e_Pl_has 7 p0 (by decide) g rfl) ?_
  by_cases hc1 : (f_Pl_has 7 p0 g) = 0
  · rw [if_pos hc1] at h
    refine ev_zft cdE_72 rfl (cn_t hc1) ?_
    refine ev_rn (n := 1) (i2 := 10) (L2 := [some (.ref 0), some (.int p0), some (.int p1)]) (st2 := [.int (-2 : Int32)]) (g2 := g) cdE_72 rfl ?_
    cases h
    exact ev_ret rfl rfl
  · rw [if_neg hc1] at h
    refine ev_zff rfl (cn_f hc1) ?_
    refine ev_rn (n := 1) (i2 := 7) (L2 := [some (.ref 0), some (.int p0), some (.int p1)]) (st2 := [.int p1]) (g2 := g) cdE_72 rfl ?_
    refine ev_call rfl cdE_71 rfl rfl rfl (e_Da_isDirection p1  g rfl) ?_
    by_cases hc2 : (f_Da_isDirection p1 g) = 0
    · rw [if_pos hc2] at h
      refine ev_zff rfl (cn_f (fun q => q hc2)) ?_
      refine ev_rn (n := 1) (i2 := 10) (L2 := [some (.ref 0), some (.int p0), some (.int p1)]) (st2 := [.int (-2 : Int32)]) (g2 := g) cdE_72 rfl ?_
      cases h
      exact ev_ret rfl rfl
    · rw [if_neg hc2] at h
      refine ev_zft cdE_72 rfl (cn_t hc2) ?_
      refine ev_rn (n := 6) (i2 := 17) (L2 := [some (.ref 0), some (.int p0), some (.int p1)]) (st2 := [.int p0, .ref 8, .int p1]) (g2 := g) cdE_72 rfl ?_
      by_cases hi3 : inb p0 5
      · rw [if_pos hi3] at h
        refine ev_iaload (v := .int (g.1 8 p0.toNatClampNeg)) rfl (kd_of (show S0[8]? = some (100, 5, List.replicate 5 none) from rfl)) (by decide) hi3 rfl ?_
        refine ev_rn (n := 2) (i2 := 20) (L2 := [some (.ref 0), some (.int p0), some (.int p1)]) (st2 := [.int (12 : Int32), .int (p1 * (g.1 8 p0.toNatClampNeg))]) (g2 := g) cdE_72 rfl ?_
        refine ev_irem rfl (by decide) ?_
        cases h
        exact ev_ret rfl rfl
      · rw [if_neg hi3] at h
        cases h
def f_Mo_isDirection (p0 : Int32) (g : M2) : Int32 := ((f_Mo_in p0.toInt64 (0 : Int64) (11 : Int64) g) &&& 1)
theorem e_Mo_isDirection {Lx : Nat} (p0 : Int32)  (g : M2) {b : Int32} (h : f_Mo_isDirection p0 g = b) : Ev Lx 73 cd_73 0 [some (.int p0)] [] g (some (.int b), g) := by
  unfold f_Mo_isDirection at h
  refine ev_rn (n := 4) (i2 := 4) (L2 := [some (.int p0)]) (st2 := [.long (11 : Int64), .long (0 : Int64), .long p0.toInt64]) (g2 := g) cdE_73 rfl ?_
  refine ev_call rfl cdE_16 rfl rfl rfl (e_Mo_in p0.toInt64 (0 : Int64) (11 : Int64)  g rfl) ?_
  subst h
  exact ev_ret rfl rfl
def f_Mo_hears (p0 : Int32) (p1 : Int32) (g : M2) : Option (Int32) := ((f_Mo_isElement p0 g).bind fun q1 => (if q1 = 0 then some (-2 : Int32) else (if (f_Mo_isDirection p1 g) = 0 then some (-2 : Int32) else (if inb ((2 : Int32) + p0) 19 then some ((p1 * (g.1 160 ((2 : Int32) + p0).toNatClampNeg)) - (p1 * (g.1 160 ((2 : Int32) + p0).toNatClampNeg)) / (12 : Int32) * (12 : Int32)) else none))))
theorem e_Mo_hears {Lx : Nat} (p0 : Int32) (p1 : Int32)  (g : M2) {b : Int32} (h : f_Mo_hears p0 p1 g = some b) : Ev Lx 74 cd_74 0 [some (.ref 157), some (.int p0), some (.int p1)] [] g (some (.int b), g) := by
  unfold f_Mo_hears at h
  refine ev_rn (n := 2) (i2 := 2) (L2 := [some (.ref 157), some (.int p0), some (.int p1)]) (st2 := [.int p0, .ref 157]) (g2 := g) cdE_74 rfl ?_
  obtain ⟨q1, hq1, h⟩ := Option.bind_eq_some_iff.mp h
  refine ev_call rfl cdE_69 rfl rfl rfl (e_Mo_isElement p0  g hq1) ?_
  by_cases hc2 : q1 = 0
  · rw [if_pos hc2] at h
    refine ev_zft cdE_74 rfl (cn_t hc2) ?_
    refine ev_rn (n := 1) (i2 := 19) (L2 := [some (.ref 157), some (.int p0), some (.int p1)]) (st2 := [.int (-2 : Int32)]) (g2 := g) cdE_74 rfl ?_
    cases h
    exact ev_ret rfl rfl
  · rw [if_neg hc2] at h
    refine ev_zff rfl (cn_f hc2) ?_
    refine ev_rn (n := 1) (i2 := 5) (L2 := [some (.ref 157), some (.int p0), some (.int p1)]) (st2 := [.int p1]) (g2 := g) cdE_74 rfl ?_
    refine ev_call rfl cdE_73 rfl rfl rfl (e_Mo_isDirection p1  g rfl) ?_
    by_cases hc3 : (f_Mo_isDirection p1 g) = 0
    · rw [if_pos hc3] at h
      refine ev_zft cdE_74 rfl (cn_t hc3) ?_
      refine ev_rn (n := 1) (i2 := 19) (L2 := [some (.ref 157), some (.int p0), some (.int p1)]) (st2 := [.int (-2 : Int32)]) (g2 := g) cdE_74 rfl ?_
      cases h
      exact ev_ret rfl rfl
    · rw [if_neg hc3] at h
      refine ev_zff rfl (cn_f hc3) ?_
      refine ev_rn (n := 6) (i2 := 13) (L2 := [some (.ref 157), some (.int p0), some (.int p1)]) (st2 := [.int ((2 : Int32) + p0), .ref 160, .int p1]) (g2 := g) cdE_74 rfl ?_
      by_cases hi4 : inb ((2 : Int32) + p0) 19
      · rw [if_pos hi4] at h
        refine ev_iaload (v := .int (g.1 160 ((2 : Int32) + p0).toNatClampNeg)) rfl (kd_of (show S0[160]? = some (100, 19, List.replicate 19 none) from rfl)) (by decide) hi4 rfl ?_
        refine ev_rn (n := 2) (i2 := 16) (L2 := [some (.ref 157), some (.int p0), some (.int p1)]) (st2 := [.int (12 : Int32), .int (p1 * (g.1 160 ((2 : Int32) + p0).toNatClampNeg))]) (g2 := g) cdE_74 rfl ?_
        refine ev_irem rfl (by decide) ?_
        refine ev_rn (n := 1) (i2 := 19) (L2 := [some (.ref 157), some (.int p0), some (.int p1)]) (st2 := [.int ((p1 * (g.1 160 ((2 : Int32) + p0).toNatClampNeg)) - (p1 * (g.1 160 ((2 : Int32) + p0).toNatClampNeg)) / (12 : Int32) * (12 : Int32))]) (g2 := g) cdE_74 rfl ?_
        cases h
        exact ev_ret rfl rfl
      · rw [if_neg hi4] at h
        cases h
def b_So_listWishes_20 (v0 : Nat) (v1 : Int32) (g : M2) : Option ((Int32 × M2) ⊕ M2) := (if (g.1 (v0 + 1) 5) ≤ v1 then some (.inr g) else (if (5 : Int32) ≤ (g.1 v0 11) then some (.inr g) else (if inb v1 4 then (if inb (g.1 v0 11) 5 then (bd (uI g (v0 + 4) (g.1 v0 11).toNatClampNeg (g.1 ((v0 + 1) + 2) v1.toNatClampNeg)) fun g6 => (bd (uI g6 v0 11 ((g6.1 v0 11) + (1 : Int32))) fun g7 => some (.inl ((v1 + (1 : Int32)), g7)))) else none) else none)))
theorem tb_So_listWishes_20 {Lx : Nat} (v0 : Nat) (hv0 : IsSol v0) (v1 : Int32) (g : M2) {b : (Int32 × M2) ⊕ M2} {o : Option Value × M2} (h : b_So_listWishes_20 v0 v1 g = some b) (hb : Sum.elim (fun s => Ev Lx 75 cd_75 20 [some (.ref v0), some (.int s.1)] [] s.2 o) (fun e => Ev Lx 75 cd_75 47 [] [] e o) b) : Ev Lx 75 cd_75 20 [some (.ref v0), some (.int v1)] [] g o := by
  unfold b_So_listWishes_20 at h
  refine ev_rn (n := 2) (i2 := 22) (L2 := [some (.ref v0), some (.int v1)]) (st2 := [.ref v0, .int v1]) (g2 := g) cdE_75 rfl ?_
  refine ev_gf (v := .ref (v0 + 1)) rfl (so_at hv0) (by decide) rfl ?_
  refine ev_gf (v := .int (g.1 (v0 + 1) 5)) rfl (pl_at (so_1 hv0)) (by decide) rfl ?_
  by_cases hc3 : (g.1 (v0 + 1) 5) ≤ v1
  · rw [if_pos hc3] at h
    refine ev_ift cdE_75 rfl (cn_t hc3) ?_
    cases h
    exact ev_wk (L := []) hb trivial
  · rw [if_neg hc3] at h
    refine ev_iff rfl (cn_f hc3) ?_
    refine ev_rn (n := 1) (i2 := 26) (L2 := [some (.ref v0), some (.int v1)]) (st2 := [.ref v0]) (g2 := g) cdE_75 rfl ?_
    refine ev_gf (v := .int (g.1 v0 11)) rfl (so_at hv0) (by decide) rfl ?_
    refine ev_rn (n := 1) (i2 := 28) (L2 := [some (.ref v0), some (.int v1)]) (st2 := [.int (5 : Int32), .int (g.1 v0 11)]) (g2 := g) cdE_75 rfl ?_
    by_cases hc4 : (5 : Int32) ≤ (g.1 v0 11)
    · rw [if_pos hc4] at h
      refine ev_ift cdE_75 rfl (cn_t hc4) ?_
      cases h
      exact ev_wk (L := []) hb trivial
    · rw [if_neg hc4] at h
      refine ev_iff rfl (cn_f hc4) ?_
      refine ev_rn (n := 1) (i2 := 30) (L2 := [some (.ref v0), some (.int v1)]) (st2 := [.ref v0]) (g2 := g) cdE_75 rfl ?_
      refine ev_gf (v := .ref (v0 + 4)) rfl (so_at hv0) (by decide) rfl ?_
      refine ev_rn (n := 1) (i2 := 32) (L2 := [some (.ref v0), some (.int v1)]) (st2 := [.ref v0, .ref (v0 + 4)]) (g2 := g) cdE_75 rfl ?_
      refine ev_gf (v := .int (g.1 v0 11)) rfl (so_at hv0) (by decide) rfl ?_
      refine ev_rn (n := 1) (i2 := 34) (L2 := [some (.ref v0), some (.int v1)]) (st2 := [.ref v0, .int (g.1 v0 11), .ref (v0 + 4)]) (g2 := g) cdE_75 rfl ?_
      refine ev_gf (v := .ref (v0 + 1)) rfl (so_at hv0) (by decide) rfl ?_
      refine ev_gf (v := .ref ((v0 + 1) + 2)) rfl (pl_at (so_1 hv0)) (by decide) rfl ?_
      refine ev_rn (n := 1) (i2 := 37) (L2 := [some (.ref v0), some (.int v1)]) (st2 := [.int v1, .ref ((v0 + 1) + 2), .int (g.1 v0 11), .ref (v0 + 4)]) (g2 := g) cdE_75 rfl ?_
      by_cases hi5 : inb v1 4
      · rw [if_pos hi5] at h
        refine ev_iaload (v := .int (g.1 ((v0 + 1) + 2) v1.toNatClampNeg)) rfl (kd_of (pl_2 (so_1 hv0))) (by decide) hi5 rfl ?_
        by_cases hi8 : inb (g.1 v0 11) 5
        · rw [if_pos hi8] at h
          refine bd_elim h (fun g6 hg6 h => ?_)
          refine ev_iastore (g2 := g6) rfl (so_4 hv0) (by decide) hi8 (by rw [hg6] <;> rfl) ?_
          refine ev_rn (n := 2) (i2 := 41) (L2 := [some (.ref v0), some (.int v1)]) (st2 := [.ref v0, .ref v0]) (g2 := g6) cdE_75 rfl ?_
          refine ev_gf (v := .int (g6.1 v0 11)) rfl (so_at hv0) (by decide) rfl ?_
          refine ev_rn (n := 2) (i2 := 44) (L2 := [some (.ref v0), some (.int v1)]) (st2 := [.int ((g6.1 v0 11) + (1 : Int32)), .ref v0]) (g2 := g6) cdE_75 rfl ?_
          refine bd_elim h (fun g7 hg7 h => ?_)
          refine ev_pf (g2 := g7) rfl (so_at hv0) (by decide) (by rw [hg7] <;> rfl) ?_
          refine ev_rn (n := 2) (i2 := 20) (L2 := [some (.ref v0), some (.int (v1 + (1 : Int32)))]) (st2 := []) (g2 := g7) cdE_75 rfl ?_
          cases h
          exact ev_wk (L := [some (.ref v0), some (.int (v1 + (1 : Int32)))]) hb ⟨rfl, ⟨rfl, trivial⟩⟩
        · rw [if_neg hi8] at h
          cases h
      · rw [if_neg hi5] at h
        cases h
def j_So_listWishes_18 (v0 : Nat) (g : M2) : Option (M2) := ((lp (fun s => b_So_listWishes_20 v0 s.1 s.2) 5000 ((0 : Int32), g)).bind fun e9 => some e9)
theorem tj_So_listWishes_18 {Lx : Nat}  (v0 : Nat) (hv0 : IsSol v0) (g : M2) {b : M2} (h : j_So_listWishes_18 v0 g = some b) : Ev Lx 75 cd_75 18 [some (.ref v0)] [] g (none, b) := by
  unfold j_So_listWishes_18 at h
  refine ev_rn (n := 2) (i2 := 20) (L2 := [some (.ref v0), some (.int (0 : Int32))]) (st2 := []) (g2 := g) cdE_75 rfl ?_
  obtain ⟨e9, he9, h⟩ := Option.bind_eq_some_iff.mp h
  have hX10 : Ev Lx 75 cd_75 47 [] [] e9 (none, b) := by
    cases h
    exact ev_ret rfl rfl
  exact ev_wk (L := [some (.ref v0), some (.int (0 : Int32))]) (lp_ind (P := (fun (s : (Int32 × M2)) => Ev Lx 75 cd_75 20 [some (.ref v0), some (.int s.1)] [] s.2 (none, b))) (fun s s2 hs hP => tb_So_listWishes_20 v0 hv0 s.1 s.2 (b := .inl s2) hs hP) (fun s hs => tb_So_listWishes_20 v0 hv0 s.1 s.2 (b := .inr e9) hs hX10) _ _ he9) ⟨rfl, ⟨rfl, trivial⟩⟩
def f_So_listWishes (a0 : Nat) (g : M2) : Option (M2) := (bd (uI g a0 11 (0 : Int32)) fun g1 => (if (g1.1 (a0 + 1) 4) = (-1 : Int32) then (j_So_listWishes_18 a0 g1) else (bd (uI g1 (a0 + 4) 0 (g1.1 (a0 + 1) 4)) fun g11 => (bd (uI g11 a0 11 (1 : Int32)) fun g12 => (j_So_listWishes_18 a0 g12)))))
theorem e_So_listWishes {Lx : Nat} (a0 : Nat) (ha0 : IsSol a0) (g : M2) {b : M2} (h : f_So_listWishes a0 g = some b) : Ev Lx 75 cd_75 0 [some (.ref a0)] [] g (none, b) := by
  unfold f_So_listWishes at h
  refine ev_rn (n := 2) (i2 := 2) (L2 := [some (.ref a0)]) (st2 := [.int (0 : Int32), .ref a0]) (g2 := g) cdE_75 rfl ?_
  refine bd_elim h (fun g1 hg1 h => ?_)
  refine ev_pf (g2 := g1) rfl (so_at ha0) (by decide) (by rw [hg1] <;> rfl) ?_
  refine ev_rn (n := 1) (i2 := 4) (L2 := [some (.ref a0)]) (st2 := [.ref a0]) (g2 := g1) cdE_75 rfl ?_
  refine ev_gf (v := .ref (a0 + 1)) rfl (so_at ha0) (by decide) rfl ?_
  refine ev_gf (v := .int (g1.1 (a0 + 1) 4)) rfl (pl_at (so_1 ha0)) (by decide) rfl ?_
  refine ev_rn (n := 1) (i2 := 7) (L2 := [some (.ref a0)]) (st2 := [.int (-1 : Int32), .int (g1.1 (a0 + 1) 4)]) (g2 := g1) cdE_75 rfl ?_
  by_cases hc2 : (g1.1 (a0 + 1) 4) = (-1 : Int32)
  · rw [if_pos hc2] at h
    refine ev_ift cdE_75 rfl (cn_t hc2) ?_
    exact ev_wk (L := [some (.ref a0)]) (tj_So_listWishes_18  a0 ha0 g1 h) ⟨rfl, trivial⟩
  · rw [if_neg hc2] at h
    refine ev_iff rfl (cn_f hc2) ?_
    refine ev_rn (n := 1) (i2 := 9) (L2 := [some (.ref a0)]) (st2 := [.ref a0]) (g2 := g1) cdE_75 rfl ?_
    refine ev_gf (v := .ref (a0 + 4)) rfl (so_at ha0) (by decide) rfl ?_
    refine ev_rn (n := 2) (i2 := 12) (L2 := [some (.ref a0)]) (st2 := [.ref a0, .int (0 : Int32), .ref (a0 + 4)]) (g2 := g1) cdE_75 rfl ?_
    refine ev_gf (v := .ref (a0 + 1)) rfl (so_at ha0) (by decide) rfl ?_
    refine ev_gf (v := .int (g1.1 (a0 + 1) 4)) rfl (pl_at (so_1 ha0)) (by decide) rfl ?_
    refine bd_elim h (fun g11 hg11 h => ?_)
    refine ev_iastore (g2 := g11) rfl (so_4 ha0) (by decide) ⟨by decide, by decide⟩ (by rw [hg11] <;> rfl) ?_
    refine ev_rn (n := 2) (i2 := 17) (L2 := [some (.ref a0)]) (st2 := [.int (1 : Int32), .ref a0]) (g2 := g11) cdE_75 rfl ?_
    refine bd_elim h (fun g12 hg12 h => ?_)
    refine ev_pf (g2 := g12) rfl (so_at ha0) (by decide) (by rw [hg12] <;> rfl) ?_
    exact ev_wk (L := [some (.ref a0)]) (tj_So_listWishes_18  a0 ha0 g12 h) ⟨rfl, trivial⟩
def f_Nu_clear (a0 : Nat) (g : M2) : Option (M2) := (bd (uJ g a0 0 (0 : Int64)) fun g1 => (bd (uJ g1 a0 1 (0 : Int64)) fun g2 => (bd (uJ g2 a0 2 (0 : Int64)) fun g3 => (bd (uJ g3 a0 3 (0 : Int64)) fun g4 => some g4))))
theorem e_Nu_clear {Lx : Nat} (a0 : Nat) (ha0 : IsNum a0) (g : M2) {b : M2} (h : f_Nu_clear a0 g = some b) : Ev Lx 76 cd_76 0 [some (.ref a0)] [] g (none, b) := by
  unfold f_Nu_clear at h
  refine ev_rn (n := 2) (i2 := 2) (L2 := [some (.ref a0)]) (st2 := [.long (0 : Int64), .ref a0]) (g2 := g) cdE_76 rfl ?_
  refine bd_elim h (fun g1 hg1 h => ?_)
  refine ev_pf (g2 := g1) rfl ha0 (by decide) (by rw [hg1] <;> rfl) ?_
  refine ev_rn (n := 2) (i2 := 5) (L2 := [some (.ref a0)]) (st2 := [.long (0 : Int64), .ref a0]) (g2 := g1) cdE_76 rfl ?_
  refine bd_elim h (fun g2 hg2 h => ?_)
  refine ev_pf (g2 := g2) rfl ha0 (by decide) (by rw [hg2] <;> rfl) ?_
  refine ev_rn (n := 2) (i2 := 8) (L2 := [some (.ref a0)]) (st2 := [.long (0 : Int64), .ref a0]) (g2 := g2) cdE_76 rfl ?_
  refine bd_elim h (fun g3 hg3 h => ?_)
  refine ev_pf (g2 := g3) rfl ha0 (by decide) (by rw [hg3] <;> rfl) ?_
  refine ev_rn (n := 2) (i2 := 11) (L2 := [some (.ref a0)]) (st2 := [.long (0 : Int64), .ref a0]) (g2 := g3) cdE_76 rfl ?_
  refine bd_elim h (fun g4 hg4 h => ?_)
  refine ev_pf (g2 := g4) rfl ha0 (by decide) (by rw [hg4] <;> rfl) ?_
  cases h
  exact ev_ret rfl rfl
def j_Nu_addRoot_9 (v0 : Nat) (v1 : Int32) (v2 : Int32) (g : M2) : Option (M2) := (if (v1 - v1 / (6 : Int32) * (6 : Int32)) = 0 then (bd (uJ g v0 0 ((g.2 v0 0) + v2.toInt64)) fun g14 => some g14) else (if (v1 - v1 / (6 : Int32) * (6 : Int32)) = 1 then (bd (uJ g v0 1 ((g.2 v0 1) + v2.toInt64)) fun g13 => some g13) else (if (v1 - v1 / (6 : Int32) * (6 : Int32)) = 2 then (bd (uJ g v0 2 ((g.2 v0 2) + v2.toInt64)) fun g12 => some g12) else (if (v1 - v1 / (6 : Int32) * (6 : Int32)) = 3 then (bd (uJ g v0 3 ((g.2 v0 3) + v2.toInt64)) fun g11 => some g11) else (if (v1 - v1 / (6 : Int32) * (6 : Int32)) = 4 then (bd (uJ g v0 0 ((g.2 v0 0) - v2.toInt64)) fun g9 => (bd (uJ g9 v0 2 ((g9.2 v0 2) + v2.toInt64)) fun g10 => some g10)) else (bd (uJ g v0 1 ((g.2 v0 1) - v2.toInt64)) fun g2 => (bd (uJ g2 v0 3 ((g2.2 v0 3) + v2.toInt64)) fun g3 => some g3)))))))
theorem tj_Nu_addRoot_9 {Lx : Nat}  (v0 : Nat) (v1 : Int32) (v2 : Int32) (hv0 : IsNum v0) (g : M2) {b : M2} (h : j_Nu_addRoot_9 v0 v1 v2 g = some b) : Ev Lx 77 cd_77 9 [some (.ref v0), some (.int v1), some (.int v2)] [] g (none, b) := by
  unfold j_Nu_addRoot_9 at h
  refine ev_rn (n := 2) (i2 := 11) (L2 := [some (.ref v0), some (.int v1), some (.int v2)]) (st2 := [.int (6 : Int32), .int v1]) (g2 := g) cdE_77 rfl ?_
  refine ev_irem rfl (by decide) ?_
  by_cases hw4 : (v1 - v1 / (6 : Int32) * (6 : Int32)) = 0
  · rw [if_pos hw4] at h
    refine ev_swi (v := 0) (q := 2) cdE_77 rfl hw4 rfl rfl ?_
    refine ev_rn (n := 2) (i2 := 15) (L2 := [some (.ref v0), some (.int v1), some (.int v2)]) (st2 := [.ref v0, .ref v0]) (g2 := g) cdE_77 rfl ?_
    refine ev_gf (v := .long (g.2 v0 0)) rfl hv0 (by decide) rfl ?_
    refine ev_rn (n := 3) (i2 := 19) (L2 := [some (.ref v0), some (.int v1), some (.int v2)]) (st2 := [.long ((g.2 v0 0) + v2.toInt64), .ref v0]) (g2 := g) cdE_77 rfl ?_
    refine bd_elim h (fun g14 hg14 h => ?_)
    refine ev_pf (g2 := g14) rfl hv0 (by decide) (by rw [hg14] <;> rfl) ?_
    refine ev_rn (n := 1) (i2 := 74) (L2 := [some (.ref v0), some (.int v1), some (.int v2)]) (st2 := []) (g2 := g14) cdE_77 rfl ?_
    cases h
    exact ev_ret rfl rfl
  · rw [if_neg hw4] at h
    by_cases hw5 : (v1 - v1 / (6 : Int32) * (6 : Int32)) = 1
    · rw [if_pos hw5] at h
      refine ev_swi (v := 1) (q := 4) cdE_77 rfl hw5 rfl rfl ?_
      refine ev_rn (n := 2) (i2 := 23) (L2 := [some (.ref v0), some (.int v1), some (.int v2)]) (st2 := [.ref v0, .ref v0]) (g2 := g) cdE_77 rfl ?_
      refine ev_gf (v := .long (g.2 v0 1)) rfl hv0 (by decide) rfl ?_
      refine ev_rn (n := 3) (i2 := 27) (L2 := [some (.ref v0), some (.int v1), some (.int v2)]) (st2 := [.long ((g.2 v0 1) + v2.toInt64), .ref v0]) (g2 := g) cdE_77 rfl ?_
      refine bd_elim h (fun g13 hg13 h => ?_)
      refine ev_pf (g2 := g13) rfl hv0 (by decide) (by rw [hg13] <;> rfl) ?_
      refine ev_rn (n := 1) (i2 := 74) (L2 := [some (.ref v0), some (.int v1), some (.int v2)]) (st2 := []) (g2 := g13) cdE_77 rfl ?_
      cases h
      exact ev_ret rfl rfl
    · rw [if_neg hw5] at h
      by_cases hw6 : (v1 - v1 / (6 : Int32) * (6 : Int32)) = 2
      · rw [if_pos hw6] at h
        refine ev_swi (v := 2) (q := 6) cdE_77 rfl hw6 rfl rfl ?_
        refine ev_rn (n := 2) (i2 := 31) (L2 := [some (.ref v0), some (.int v1), some (.int v2)]) (st2 := [.ref v0, .ref v0]) (g2 := g) cdE_77 rfl ?_
        refine ev_gf (v := .long (g.2 v0 2)) rfl hv0 (by decide) rfl ?_
        refine ev_rn (n := 3) (i2 := 35) (L2 := [some (.ref v0), some (.int v1), some (.int v2)]) (st2 := [.long ((g.2 v0 2) + v2.toInt64), .ref v0]) (g2 := g) cdE_77 rfl ?_
        refine bd_elim h (fun g12 hg12 h => ?_)
        refine ev_pf (g2 := g12) rfl hv0 (by decide) (by rw [hg12] <;> rfl) ?_
        refine ev_rn (n := 1) (i2 := 74) (L2 := [some (.ref v0), some (.int v1), some (.int v2)]) (st2 := []) (g2 := g12) cdE_77 rfl ?_
        cases h
        exact ev_ret rfl rfl
      · rw [if_neg hw6] at h
        by_cases hw7 : (v1 - v1 / (6 : Int32) * (6 : Int32)) = 3
        · rw [if_pos hw7] at h
          refine ev_swi (v := 3) (q := 8) cdE_77 rfl hw7 rfl rfl ?_
          refine ev_rn (n := 2) (i2 := 39) (L2 := [some (.ref v0), some (.int v1), some (.int v2)]) (st2 := [.ref v0, .ref v0]) (g2 := g) cdE_77 rfl ?_
          refine ev_gf (v := .long (g.2 v0 3)) rfl hv0 (by decide) rfl ?_
          refine ev_rn (n := 3) (i2 := 43) (L2 := [some (.ref v0), some (.int v1), some (.int v2)]) (st2 := [.long ((g.2 v0 3) + v2.toInt64), .ref v0]) (g2 := g) cdE_77 rfl ?_
          refine bd_elim h (fun g11 hg11 h => ?_)
          refine ev_pf (g2 := g11) rfl hv0 (by decide) (by rw [hg11] <;> rfl) ?_
          refine ev_rn (n := 1) (i2 := 74) (L2 := [some (.ref v0), some (.int v1), some (.int v2)]) (st2 := []) (g2 := g11) cdE_77 rfl ?_
          cases h
          exact ev_ret rfl rfl
        · rw [if_neg hw7] at h
          by_cases hw8 : (v1 - v1 / (6 : Int32) * (6 : Int32)) = 4
          · rw [if_pos hw8] at h
            refine ev_swi (v := 4) (q := 10) cdE_77 rfl hw8 rfl rfl ?_
            refine ev_rn (n := 2) (i2 := 47) (L2 := [some (.ref v0), some (.int v1), some (.int v2)]) (st2 := [.ref v0, .ref v0]) (g2 := g) cdE_77 rfl ?_
            refine ev_gf (v := .long (g.2 v0 0)) rfl hv0 (by decide) rfl ?_
            refine ev_rn (n := 3) (i2 := 51) (L2 := [some (.ref v0), some (.int v1), some (.int v2)]) (st2 := [.long ((g.2 v0 0) - v2.toInt64), .ref v0]) (g2 := g) cdE_77 rfl ?_
            refine bd_elim h (fun g9 hg9 h => ?_)
            refine ev_pf (g2 := g9) rfl hv0 (by decide) (by rw [hg9] <;> rfl) ?_
            refine ev_rn (n := 2) (i2 := 54) (L2 := [some (.ref v0), some (.int v1), some (.int v2)]) (st2 := [.ref v0, .ref v0]) (g2 := g9) cdE_77 rfl ?_
            refine ev_gf (v := .long (g9.2 v0 2)) rfl hv0 (by decide) rfl ?_
            refine ev_rn (n := 3) (i2 := 58) (L2 := [some (.ref v0), some (.int v1), some (.int v2)]) (st2 := [.long ((g9.2 v0 2) + v2.toInt64), .ref v0]) (g2 := g9) cdE_77 rfl ?_
            refine bd_elim h (fun g10 hg10 h => ?_)
            refine ev_pf (g2 := g10) rfl hv0 (by decide) (by rw [hg10] <;> rfl) ?_
            refine ev_rn (n := 1) (i2 := 74) (L2 := [some (.ref v0), some (.int v1), some (.int v2)]) (st2 := []) (g2 := g10) cdE_77 rfl ?_
            cases h
            exact ev_ret rfl rfl
          · rw [if_neg hw8] at h
            have nhw4 : (v1 - v1 / (6 : Int32) * (6 : Int32)).toInt ≠ 0 := fun z => hw4 (Int32.toInt_inj.mp (z.trans (by decide)))
            have nhw5 : (v1 - v1 / (6 : Int32) * (6 : Int32)).toInt ≠ 1 := fun z => hw5 (Int32.toInt_inj.mp (z.trans (by decide)))
            have nhw6 : (v1 - v1 / (6 : Int32) * (6 : Int32)).toInt ≠ 2 := fun z => hw6 (Int32.toInt_inj.mp (z.trans (by decide)))
            have nhw7 : (v1 - v1 / (6 : Int32) * (6 : Int32)).toInt ≠ 3 := fun z => hw7 (Int32.toInt_inj.mp (z.trans (by decide)))
            have nhw8 : (v1 - v1 / (6 : Int32) * (6 : Int32)).toInt ≠ 4 := fun z => hw8 (Int32.toInt_inj.mp (z.trans (by decide)))
            refine ev_swo cdE_77 rfl (by omega) ?_
            refine ev_rn (n := 2) (i2 := 62) (L2 := [some (.ref v0), some (.int v1), some (.int v2)]) (st2 := [.ref v0, .ref v0]) (g2 := g) cdE_77 rfl ?_
            refine ev_gf (v := .long (g.2 v0 1)) rfl hv0 (by decide) rfl ?_
            refine ev_rn (n := 3) (i2 := 66) (L2 := [some (.ref v0), some (.int v1), some (.int v2)]) (st2 := [.long ((g.2 v0 1) - v2.toInt64), .ref v0]) (g2 := g) cdE_77 rfl ?_
            refine bd_elim h (fun g2 hg2 h => ?_)
            refine ev_pf (g2 := g2) rfl hv0 (by decide) (by rw [hg2] <;> rfl) ?_
            refine ev_rn (n := 2) (i2 := 69) (L2 := [some (.ref v0), some (.int v1), some (.int v2)]) (st2 := [.ref v0, .ref v0]) (g2 := g2) cdE_77 rfl ?_
            refine ev_gf (v := .long (g2.2 v0 3)) rfl hv0 (by decide) rfl ?_
            refine ev_rn (n := 3) (i2 := 73) (L2 := [some (.ref v0), some (.int v1), some (.int v2)]) (st2 := [.long ((g2.2 v0 3) + v2.toInt64), .ref v0]) (g2 := g2) cdE_77 rfl ?_
            refine bd_elim h (fun g3 hg3 h => ?_)
            refine ev_pf (g2 := g3) rfl hv0 (by decide) (by rw [hg3] <;> rfl) ?_
            cases h
            exact ev_ret rfl rfl
def f_Nu_addRoot (a0 : Nat) (p0 : Int32) (g : M2) : Option (M2) := (if (6 : Int32) ≤ (p0 - p0 / (12 : Int32) * (12 : Int32)) then (j_Nu_addRoot_9 a0 p0 (-1 : Int32) g) else (j_Nu_addRoot_9 a0 p0 (1 : Int32) g))
theorem e_Nu_addRoot {Lx : Nat} (a0 : Nat) (p0 : Int32) (ha0 : IsNum a0) (g : M2) {b : M2} (h : f_Nu_addRoot a0 p0 g = some b) : Ev Lx 77 cd_77 0 [some (.ref a0), some (.int p0)] [] g (none, b) := by
  unfold f_Nu_addRoot at h
  refine ev_rn (n := 2) (i2 := 2) (L2 := [some (.ref a0), some (.int p0)]) (st2 := [.int (12 : Int32), .int p0]) (g2 := g) cdE_77 rfl ?_
  refine ev_irem rfl (by decide) ?_
  refine ev_rn (n := 1) (i2 := 4) (L2 := [some (.ref a0), some (.int p0)]) (st2 := [.int (6 : Int32), .int (p0 - p0 / (12 : Int32) * (12 : Int32))]) (g2 := g) cdE_77 rfl ?_
  by_cases hc1 : (6 : Int32) ≤ (p0 - p0 / (12 : Int32) * (12 : Int32))
  · rw [if_pos hc1] at h
    refine ev_ift cdE_77 rfl (cn_t hc1) ?_
    refine ev_rn (n := 2) (i2 := 9) (L2 := [some (.ref a0), some (.int p0), some (.int (-1 : Int32))]) (st2 := []) (g2 := g) cdE_77 rfl ?_
    exact ev_wk (L := [some (.ref a0), some (.int p0), some (.int (-1 : Int32))]) (tj_Nu_addRoot_9  a0 p0 (-1 : Int32) ha0 g h) ⟨rfl, ⟨rfl, ⟨rfl, trivial⟩⟩⟩
  · rw [if_neg hc1] at h
    refine ev_iff rfl (cn_f hc1) ?_
    refine ev_rn (n := 3) (i2 := 9) (L2 := [some (.ref a0), some (.int p0), some (.int (1 : Int32))]) (st2 := []) (g2 := g) cdE_77 rfl ?_
    exact ev_wk (L := [some (.ref a0), some (.int p0), some (.int (1 : Int32))]) (tj_Nu_addRoot_9  a0 p0 (1 : Int32) ha0 g h) ⟨rfl, ⟨rfl, ⟨rfl, trivial⟩⟩⟩
def b_Pl_meet_12 (v0 : Nat) (v3 : Nat) (v4 : Int32) (v5 : Int32) (g : M2) : Option ((Int32 × M2) ⊕ M2) := (if (g.1 v0 2) ≤ v5 then some (.inr g) else (if (f_Pl_works v0 v5 g) = 0 then some (.inl ((v5 + (1 : Int32)), g)) else (if inb v5 5 then ((f_Nu_addRoot v3 (v4 * (g.1 (v0 + 1) v5.toNatClampNeg)) g).bind fun q5 => some (.inl ((v5 + (1 : Int32)), q5))) else none)))
theorem tb_Pl_meet_12 {Lx : Nat} (v0 : Nat) (v3 : Nat) (v4 : Int32) (hv0 : IsPlan v0) (hv3 : IsNum v3) (v5 : Int32) (g : M2) {b : (Int32 × M2) ⊕ M2} {o : Option Value × M2} (h : b_Pl_meet_12 v0 v3 v4 v5 g = some b) (hb : Sum.elim (fun s => Ev Lx 78 cd_78 12 [some (.ref v0), none, none, some (.ref v3), some (.int v4), some (.int s.1)] [] s.2 o) (fun e => Ev Lx 78 cd_78 30 [] [] e o) b) : Ev Lx 78 cd_78 12 [some (.ref v0), none, none, some (.ref v3), some (.int v4), some (.int v5)] [] g o := by
  unfold b_Pl_meet_12 at h
  refine ev_rn (n := 2) (i2 := 14) (L2 := [some (.ref v0), none, none, some (.ref v3), some (.int v4), some (.int v5)]) (st2 := [.ref v0, .int v5]) (g2 := g) cdE_78 rfl ?_
  refine ev_gf (v := .int (g.1 v0 2)) rfl (pl_at hv0) (by decide) rfl ?_
  by_cases hc2 : (g.1 v0 2) ≤ v5
  · rw [if_pos hc2] at h
    refine ev_ift cdE_78 rfl (cn_t hc2) ?_
    cases h
    exact ev_wk (L := []) hb trivial
  · rw [if_neg hc2] at h
    refine ev_iff rfl (cn_f hc2) ?_
    refine ev_rn (n := 2) (i2 := 18) (L2 := [some (.ref v0), none, none, some (.ref v3), some (.int v4), some (.int v5)]) (st2 := [.int v5, .ref v0]) (g2 := g) cdE_78 rfl ?_
    refine ev_call rfl cdE_67 (cokV rfl rfl (pl_at hv0) rfl) rfl rfl (e_Pl_works v0 v5 hv0 g rfl) ?_
    by_cases hc3 : (f_Pl_works v0 v5 g) = 0
    · rw [if_pos hc3] at h
      refine ev_zft cdE_78 rfl (cn_t hc3) ?_
      refine ev_rn (n := 2) (i2 := 12) (L2 := [some (.ref v0), none, none, some (.ref v3), some (.int v4), some (.int (v5 + (1 : Int32)))]) (st2 := []) (g2 := g) cdE_78 rfl ?_
      cases h
      exact ev_wk (L := [some (.ref v0), none, none, some (.ref v3), some (.int v4), some (.int (v5 + (1 : Int32)))]) hb ⟨rfl, ⟨rfl, ⟨rfl, ⟨rfl, trivial⟩⟩⟩⟩
    · rw [if_neg hc3] at h
      refine ev_zff rfl (cn_f hc3) ?_
      refine ev_rn (n := 3) (i2 := 23) (L2 := [some (.ref v0), none, none, some (.ref v3), some (.int v4), some (.int v5)]) (st2 := [.ref v0, .int v4, .ref v3]) (g2 := g) cdE_78 rfl ?_
      refine ev_gf (v := .ref (v0 + 1)) rfl (pl_at hv0) (by decide) rfl ?_
      refine ev_rn (n := 1) (i2 := 25) (L2 := [some (.ref v0), none, none, some (.ref v3), some (.int v4), some (.int v5)]) (st2 := [.int v5, .ref (v0 + 1), .int v4, .ref v3]) (g2 := g) cdE_78 rfl ?_
      by_cases hi4 : inb v5 5
      · rw [if_pos hi4] at h
        refine ev_iaload (v := .int (g.1 (v0 + 1) v5.toNatClampNeg)) rfl (kd_of (pl_1 hv0)) (by decide) hi4 rfl ?_
        refine ev_rn (n := 1) (i2 := 27) (L2 := [some (.ref v0), none, none, some (.ref v3), some (.int v4), some (.int v5)]) (st2 := [.int (v4 * (g.1 (v0 + 1) v5.toNatClampNeg)), .ref v3]) (g2 := g) cdE_78 rfl ?_
        obtain ⟨q5, hq5, h⟩ := Option.bind_eq_some_iff.mp h
        refine ev_call rfl cdE_77 (cokV rfl rfl hv3 rfl) rfl rfl (e_Nu_addRoot v3 (v4 * (g.1 (v0 + 1) v5.toNatClampNeg)) hv3 g hq5) ?_
        refine ev_rn (n := 2) (i2 := 12) (L2 := [some (.ref v0), none, none, some (.ref v3), some (.int v4), some (.int (v5 + (1 : Int32)))]) (st2 := []) (g2 := q5) cdE_78 rfl ?_
        cases h
        exact ev_wk (L := [some (.ref v0), none, none, some (.ref v3), some (.int v4), some (.int (v5 + (1 : Int32)))]) hb ⟨rfl, ⟨rfl, ⟨rfl, ⟨rfl, trivial⟩⟩⟩⟩
      · rw [if_neg hi4] at h
        cases h
def f_Pl_meet (a0 : Nat) (p0 : Int32) (p1 : Int32) (p2 : Nat) (g : M2) : Option (M2) := ((f_Nu_clear p2 g).bind fun q1 => ((lp (fun s => b_Pl_meet_12 a0 p2 (((p0 - p1) + (12 : Int32)) - ((p0 - p1) + (12 : Int32)) / (12 : Int32) * (12 : Int32)) s.1 s.2) 5000 ((0 : Int32), q1)).bind fun e6 => some e6))
theorem e_Pl_meet {Lx : Nat} (a0 : Nat) (p0 : Int32) (p1 : Int32) (p2 : Nat) (ha0 : IsPlan a0) (hp2 : IsNum p2) (g : M2) {b : M2} (h : f_Pl_meet a0 p0 p1 p2 g = some b) : Ev Lx 78 cd_78 0 [some (.ref a0), some (.int p0), some (.int p1), some (.ref p2)] [] g (none, b) := by
  unfold f_Pl_meet at h
  refine ev_rn (n := 1) (i2 := 1) (L2 := [some (.ref a0), some (.int p0), some (.int p1), some (.ref p2)]) (st2 := [.ref p2]) (g2 := g) cdE_78 rfl ?_
  obtain ⟨q1, hq1, h⟩ := Option.bind_eq_some_iff.mp h
  refine ev_call rfl cdE_76 (cokV rfl rfl hp2 rfl) rfl rfl (e_Nu_clear p2 hp2 g hq1) ?_
  refine ev_rn (n := 6) (i2 := 8) (L2 := [some (.ref a0), some (.int p0), some (.int p1), some (.ref p2)]) (st2 := [.int (12 : Int32), .int ((p0 - p1) + (12 : Int32))]) (g2 := q1) cdE_78 rfl ?_
  refine ev_irem rfl (by decide) ?_
  refine ev_rn (n := 3) (i2 := 12) (L2 := [some (.ref a0), some (.int p0), some (.int p1), some (.ref p2), some (.int (((p0 - p1) + (12 : Int32)) - ((p0 - p1) + (12 : Int32)) / (12 : Int32) * (12 : Int32))), some (.int (0 : Int32))]) (st2 := []) (g2 := q1) cdE_78 rfl ?_
  obtain ⟨e6, he6, h⟩ := Option.bind_eq_some_iff.mp h
  have hX7 : Ev Lx 78 cd_78 30 [] [] e6 (none, b) := by
    cases h
    exact ev_ret rfl rfl
  exact ev_wk (L := [some (.ref a0), none, none, some (.ref p2), some (.int (((p0 - p1) + (12 : Int32)) - ((p0 - p1) + (12 : Int32)) / (12 : Int32) * (12 : Int32))), some (.int (0 : Int32))]) (lp_ind (P := (fun (s : (Int32 × M2)) => Ev Lx 78 cd_78 12 [some (.ref a0), none, none, some (.ref p2), some (.int (((p0 - p1) + (12 : Int32)) - ((p0 - p1) + (12 : Int32)) / (12 : Int32) * (12 : Int32))), some (.int s.1)] [] s.2 (none, b))) (fun s s2 hs hP => tb_Pl_meet_12 a0 p2 (((p0 - p1) + (12 : Int32)) - ((p0 - p1) + (12 : Int32)) / (12 : Int32) * (12 : Int32)) ha0 hp2 s.1 s.2 (b := .inl s2) hs hP) (fun s hs => tb_Pl_meet_12 a0 p2 (((p0 - p1) + (12 : Int32)) - ((p0 - p1) + (12 : Int32)) / (12 : Int32) * (12 : Int32)) ha0 hp2 s.1 s.2 (b := .inr e6) hs hX7) _ _ he6) ⟨rfl, ⟨rfl, ⟨rfl, ⟨rfl, trivial⟩⟩⟩⟩
def b_So_fillForm_8 (v0 : Nat) (v1 : Int32) (v2 : Int32) (g : M2) : Option ((Int32 × M2) ⊕ M2) := (if (g.1 v0 11) ≤ v2 then some (.inr g) else (if inb v1 5 then (if inb v2 5 then (if inb ((v1 * (6 : Int32)) + v2) 30 then ((f_Pl_meet (v0 + 1) (g.1 (v0 + 4) v1.toNatClampNeg) (g.1 (v0 + 4) v2.toNatClampNeg) ((v0 + 6) + 1 + ((v1 * (6 : Int32)) + v2).toNatClampNeg) g).bind fun q6 => some (.inl ((v2 + (1 : Int32)), q6))) else none) else none) else none))
theorem tb_So_fillForm_8 {Lx : Nat} (v0 : Nat) (v1 : Int32) (hv0 : IsSol v0) (v2 : Int32) (g : M2) {b : (Int32 × M2) ⊕ M2} {o : Option Value × M2} (h : b_So_fillForm_8 v0 v1 v2 g = some b) (hb : Sum.elim (fun s => Ev Lx 79 cd_79 8 [some (.ref v0), some (.int v1), some (.int s.1)] [] s.2 o) (fun e => Ev Lx 79 cd_79 33 [some (.ref v0), some (.int v1)] [] e o) b) : Ev Lx 79 cd_79 8 [some (.ref v0), some (.int v1), some (.int v2)] [] g o := by
  unfold b_So_fillForm_8 at h
  refine ev_rn (n := 2) (i2 := 10) (L2 := [some (.ref v0), some (.int v1), some (.int v2)]) (st2 := [.ref v0, .int v2]) (g2 := g) cdE_79 rfl ?_
  refine ev_gf (v := .int (g.1 v0 11)) rfl (so_at hv0) (by decide) rfl ?_
  by_cases hc2 : (g.1 v0 11) ≤ v2
  · rw [if_pos hc2] at h
    refine ev_ift cdE_79 rfl (cn_t hc2) ?_
    cases h
    exact ev_wk (L := [some (.ref v0), some (.int v1)]) hb ⟨rfl, ⟨rfl, trivial⟩⟩
  · rw [if_neg hc2] at h
    refine ev_iff rfl (cn_f hc2) ?_
    refine ev_rn (n := 1) (i2 := 13) (L2 := [some (.ref v0), some (.int v1), some (.int v2)]) (st2 := [.ref v0]) (g2 := g) cdE_79 rfl ?_
    refine ev_gf (v := .ref (v0 + 1)) rfl (so_at hv0) (by decide) rfl ?_
    refine ev_rn (n := 1) (i2 := 15) (L2 := [some (.ref v0), some (.int v1), some (.int v2)]) (st2 := [.ref v0, .ref (v0 + 1)]) (g2 := g) cdE_79 rfl ?_
    refine ev_gf (v := .ref (v0 + 4)) rfl (so_at hv0) (by decide) rfl ?_
    refine ev_rn (n := 1) (i2 := 17) (L2 := [some (.ref v0), some (.int v1), some (.int v2)]) (st2 := [.int v1, .ref (v0 + 4), .ref (v0 + 1)]) (g2 := g) cdE_79 rfl ?_
    by_cases hi3 : inb v1 5
    · rw [if_pos hi3] at h
      refine ev_iaload (v := .int (g.1 (v0 + 4) v1.toNatClampNeg)) rfl (kd_of (so_4 hv0)) (by decide) hi3 rfl ?_
      refine ev_rn (n := 1) (i2 := 19) (L2 := [some (.ref v0), some (.int v1), some (.int v2)]) (st2 := [.ref v0, .int (g.1 (v0 + 4) v1.toNatClampNeg), .ref (v0 + 1)]) (g2 := g) cdE_79 rfl ?_
      refine ev_gf (v := .ref (v0 + 4)) rfl (so_at hv0) (by decide) rfl ?_
      refine ev_rn (n := 1) (i2 := 21) (L2 := [some (.ref v0), some (.int v1), some (.int v2)]) (st2 := [.int v2, .ref (v0 + 4), .int (g.1 (v0 + 4) v1.toNatClampNeg), .ref (v0 + 1)]) (g2 := g) cdE_79 rfl ?_
      by_cases hi4 : inb v2 5
      · rw [if_pos hi4] at h
        refine ev_iaload (v := .int (g.1 (v0 + 4) v2.toNatClampNeg)) rfl (kd_of (so_4 hv0)) (by decide) hi4 rfl ?_
        refine ev_rn (n := 1) (i2 := 23) (L2 := [some (.ref v0), some (.int v1), some (.int v2)]) (st2 := [.ref v0, .int (g.1 (v0 + 4) v2.toNatClampNeg), .int (g.1 (v0 + 4) v1.toNatClampNeg), .ref (v0 + 1)]) (g2 := g) cdE_79 rfl ?_
        refine ev_gf (v := .ref (v0 + 6)) rfl (so_at hv0) (by decide) rfl ?_
        refine ev_rn (n := 5) (i2 := 29) (L2 := [some (.ref v0), some (.int v1), some (.int v2)]) (st2 := [.int ((v1 * (6 : Int32)) + v2), .ref (v0 + 6), .int (g.1 (v0 + 4) v2.toNatClampNeg), .int (g.1 (v0 + 4) v1.toNatClampNeg), .ref (v0 + 1)]) (g2 := g) cdE_79 rfl ?_
        by_cases hi5 : inb ((v1 * (6 : Int32)) + v2) 30
        · rw [if_pos hi5] at h
          refine ev_aaload (v := .ref ((v0 + 6) + 1 + ((v1 * (6 : Int32)) + v2).toNatClampNeg)) rfl (kd_of (na_at (so_6 hv0))) (by decide) hi5 (na_rf (w := (v0 + 6)) hi5.2) ?_
          obtain ⟨q6, hq6, h⟩ := Option.bind_eq_some_iff.mp h
          refine ev_call rfl cdE_78 (cokV rfl rfl (pl_at (so_1 hv0)) rfl) rfl rfl (e_Pl_meet (v0 + 1) (g.1 (v0 + 4) v1.toNatClampNeg) (g.1 (v0 + 4) v2.toNatClampNeg) ((v0 + 6) + 1 + ((v1 * (6 : Int32)) + v2).toNatClampNeg) (so_1 hv0) (na_el (so_6 hv0) hi5.2) g hq6) ?_
          refine ev_rn (n := 2) (i2 := 8) (L2 := [some (.ref v0), some (.int v1), some (.int (v2 + (1 : Int32)))]) (st2 := []) (g2 := q6) cdE_79 rfl ?_
          cases h
          exact ev_wk (L := [some (.ref v0), some (.int v1), some (.int (v2 + (1 : Int32)))]) hb ⟨rfl, ⟨rfl, ⟨rfl, trivial⟩⟩⟩
        · rw [if_neg hi5] at h
          cases h
      · rw [if_neg hi4] at h
        cases h
    · rw [if_neg hi3] at h
      cases h
def b_So_fillForm_2 (v0 : Nat) (v1 : Int32) (g : M2) : Option ((Int32 × M2) ⊕ M2) := (if (g.1 v0 11) ≤ v1 then some (.inr g) else ((lp (fun s => b_So_fillForm_8 v0 v1 s.1 s.2) 5000 (v1, g)).bind fun e7 => (if inb ((v1 * (6 : Int32)) + (5 : Int32)) 30 then ((f_Nu_clear ((v0 + 6) + 1 + ((v1 * (6 : Int32)) + (5 : Int32)).toNatClampNeg) e7).bind fun q9 => some (.inl ((v1 + (1 : Int32)), q9))) else none)))
theorem tb_So_fillForm_2 {Lx : Nat} (v0 : Nat) (hv0 : IsSol v0) (v1 : Int32) (g : M2) {b : (Int32 × M2) ⊕ M2} {o : Option Value × M2} (h : b_So_fillForm_2 v0 v1 g = some b) (hb : Sum.elim (fun s => Ev Lx 79 cd_79 2 [some (.ref v0), some (.int s.1)] [] s.2 o) (fun e => Ev Lx 79 cd_79 44 [some (.ref v0)] [] e o) b) : Ev Lx 79 cd_79 2 [some (.ref v0), some (.int v1)] [] g o := by
  unfold b_So_fillForm_2 at h
  refine ev_rn (n := 2) (i2 := 4) (L2 := [some (.ref v0), some (.int v1)]) (st2 := [.ref v0, .int v1]) (g2 := g) cdE_79 rfl ?_
  refine ev_gf (v := .int (g.1 v0 11)) rfl (so_at hv0) (by decide) rfl ?_
  by_cases hc1 : (g.1 v0 11) ≤ v1
  · rw [if_pos hc1] at h
    refine ev_ift cdE_79 rfl (cn_t hc1) ?_
    cases h
    exact ev_wk (L := [some (.ref v0)]) hb ⟨rfl, trivial⟩
  · rw [if_neg hc1] at h
    refine ev_iff rfl (cn_f hc1) ?_
    refine ev_rn (n := 2) (i2 := 8) (L2 := [some (.ref v0), some (.int v1), some (.int v1)]) (st2 := []) (g2 := g) cdE_79 rfl ?_
    obtain ⟨e7, he7, h⟩ := Option.bind_eq_some_iff.mp h
    have hX10 : Ev Lx 79 cd_79 33 [some (.ref v0), some (.int v1)] [] e7 o := by
      refine ev_rn (n := 1) (i2 := 34) (L2 := [some (.ref v0), some (.int v1)]) (st2 := [.ref v0]) (g2 := e7) cdE_79 rfl ?_
      refine ev_gf (v := .ref (v0 + 6)) rfl (so_at hv0) (by decide) rfl ?_
      refine ev_rn (n := 5) (i2 := 40) (L2 := [some (.ref v0), some (.int v1)]) (st2 := [.int ((v1 * (6 : Int32)) + (5 : Int32)), .ref (v0 + 6)]) (g2 := e7) cdE_79 rfl ?_
      by_cases hi8 : inb ((v1 * (6 : Int32)) + (5 : Int32)) 30
      · rw [if_pos hi8] at h
        refine ev_aaload (v := .ref ((v0 + 6) + 1 + ((v1 * (6 : Int32)) + (5 : Int32)).toNatClampNeg)) rfl (kd_of (na_at (so_6 hv0))) (by decide) hi8 (na_rf (w := (v0 + 6)) hi8.2) ?_
        obtain ⟨q9, hq9, h⟩ := Option.bind_eq_some_iff.mp h
        refine ev_call rfl cdE_76 (cokV rfl rfl (na_el (so_6 hv0) hi8.2) rfl) rfl rfl (e_Nu_clear ((v0 + 6) + 1 + ((v1 * (6 : Int32)) + (5 : Int32)).toNatClampNeg) (na_el (so_6 hv0) hi8.2) e7 hq9) ?_
        refine ev_rn (n := 2) (i2 := 2) (L2 := [some (.ref v0), some (.int (v1 + (1 : Int32)))]) (st2 := []) (g2 := q9) cdE_79 rfl ?_
        cases h
        exact ev_wk (L := [some (.ref v0), some (.int (v1 + (1 : Int32)))]) hb ⟨rfl, ⟨rfl, trivial⟩⟩
      · rw [if_neg hi8] at h
        cases h
    exact ev_wk (L := [some (.ref v0), some (.int v1), some (.int v1)]) (lp_ind (P := (fun (s : (Int32 × M2)) => Ev Lx 79 cd_79 8 [some (.ref v0), some (.int v1), some (.int s.1)] [] s.2 o)) (fun s s2 hs hP => tb_So_fillForm_8 v0 v1 hv0 s.1 s.2 (b := .inl s2) hs hP) (fun s hs => tb_So_fillForm_8 v0 v1 hv0 s.1 s.2 (b := .inr e7) hs hX10) _ _ he7) ⟨rfl, ⟨rfl, ⟨rfl, trivial⟩⟩⟩
def f_So_fillForm (a0 : Nat) (g : M2) : Option (M2) := ((lp (fun s => b_So_fillForm_2 a0 s.1 s.2) 5000 ((0 : Int32), g)).bind fun e11 => (if (e11.1 (a0 + 1) 4) = (-1 : Int32) then some e11 else ((f_Nu_addRoot ((a0 + 6) + 1 + 5) (0 : Int32) e11).bind fun q13 => some q13)))
theorem e_So_fillForm {Lx : Nat} (a0 : Nat) (ha0 : IsSol a0) (g : M2) {b : M2} (h : f_So_fillForm a0 g = some b) : Ev Lx 79 cd_79 0 [some (.ref a0)] [] g (none, b) := by
  unfold f_So_fillForm at h
  refine ev_rn (n := 2) (i2 := 2) (L2 := [some (.ref a0), some (.int (0 : Int32))]) (st2 := []) (g2 := g) cdE_79 rfl ?_
  obtain ⟨e11, he11, h⟩ := Option.bind_eq_some_iff.mp h
  have hX14 : Ev Lx 79 cd_79 44 [some (.ref a0)] [] e11 (none, b) := by
    refine ev_rn (n := 1) (i2 := 45) (L2 := [some (.ref a0)]) (st2 := [.ref a0]) (g2 := e11) cdE_79 rfl ?_
    refine ev_gf (v := .ref (a0 + 1)) rfl (so_at ha0) (by decide) rfl ?_
    refine ev_gf (v := .int (e11.1 (a0 + 1) 4)) rfl (pl_at (so_1 ha0)) (by decide) rfl ?_
    refine ev_rn (n := 1) (i2 := 48) (L2 := [some (.ref a0)]) (st2 := [.int (-1 : Int32), .int (e11.1 (a0 + 1) 4)]) (g2 := e11) cdE_79 rfl ?_
    by_cases hc12 : (e11.1 (a0 + 1) 4) = (-1 : Int32)
    · rw [if_pos hc12] at h
      refine ev_ift cdE_79 rfl (cn_t hc12) ?_
      cases h
      exact ev_ret rfl rfl
    · rw [if_neg hc12] at h
      refine ev_iff rfl (cn_f hc12) ?_
      refine ev_rn (n := 1) (i2 := 50) (L2 := [some (.ref a0)]) (st2 := [.ref a0]) (g2 := e11) cdE_79 rfl ?_
      refine ev_gf (v := .ref (a0 + 6)) rfl (so_at ha0) (by decide) rfl ?_
      refine ev_rn (n := 1) (i2 := 52) (L2 := [some (.ref a0)]) (st2 := [.int (5 : Int32), .ref (a0 + 6)]) (g2 := e11) cdE_79 rfl ?_
      refine ev_aaload (v := .ref ((a0 + 6) + 1 + 5)) rfl (kd_of (na_at (so_6 ha0))) (by decide) ⟨by decide, by decide⟩ (na_rf (w := (a0 + 6)) (by decide)) ?_
      refine ev_rn (n := 1) (i2 := 54) (L2 := [some (.ref a0)]) (st2 := [.int (0 : Int32), .ref ((a0 + 6) + 1 + 5)]) (g2 := e11) cdE_79 rfl ?_
      obtain ⟨q13, hq13, h⟩ := Option.bind_eq_some_iff.mp h
      refine ev_call rfl cdE_77 (cokV rfl rfl (na_el (so_6 ha0) (j := 5) (by decide)) rfl) rfl rfl (e_Nu_addRoot ((a0 + 6) + 1 + 5) (0 : Int32) (na_el (so_6 ha0) (j := 5) (by decide)) e11 hq13) ?_
      cases h
      exact ev_ret rfl rfl
  exact ev_wk (L := [some (.ref a0), some (.int (0 : Int32))]) (lp_ind (P := (fun (s : (Int32 × M2)) => Ev Lx 79 cd_79 2 [some (.ref a0), some (.int s.1)] [] s.2 (none, b))) (fun s s2 hs hP => tb_So_fillForm_2 a0 ha0 s.1 s.2 (b := .inl s2) hs hP) (fun s hs => tb_So_fillForm_2 a0 ha0 s.1 s.2 (b := .inr e11) hs hX14) _ _ he11) ⟨rfl, ⟨rfl, trivial⟩⟩
def f_Nu_isZero (a0 : Nat) (g : M2) : Int32 := (if (g.2 a0 0) = (0 : Int64) then (if (g.2 a0 1) = (0 : Int64) then (if (g.2 a0 2) = (0 : Int64) then (if (g.2 a0 3) = (0 : Int64) then (1 : Int32) else (0 : Int32)) else (0 : Int32)) else (0 : Int32)) else (0 : Int32))
theorem e_Nu_isZero {Lx : Nat} (a0 : Nat) (ha0 : IsNum a0) (g : M2) {b : Int32} (h : f_Nu_isZero a0 g = b) : Ev Lx 80 cd_80 0 [some (.ref a0)] [] g (some (.int b), g) := by
  unfold f_Nu_isZero at h
  refine ev_rn (n := 1) (i2 := 1) (L2 := [some (.ref a0)]) (st2 := [.ref a0]) (g2 := g) cdE_80 rfl ?_
  refine ev_gf (v := .long (g.2 a0 0)) rfl ha0 (by decide) rfl ?_
  refine ev_rn (n := 2) (i2 := 4) (L2 := [some (.ref a0)]) (st2 := [.int (lg_cmp (g.2 a0 0) (0 : Int64))]) (g2 := g) cdE_80 rfl ?_
  by_cases hc1 : (g.2 a0 0) = (0 : Int64)
  · rw [if_pos hc1] at h
    refine ev_zff rfl (lc_ne_f hc1) ?_
    refine ev_rn (n := 1) (i2 := 6) (L2 := [some (.ref a0)]) (st2 := [.ref a0]) (g2 := g) cdE_80 rfl ?_
    refine ev_gf (v := .long (g.2 a0 1)) rfl ha0 (by decide) rfl ?_
    refine ev_rn (n := 2) (i2 := 9) (L2 := [some (.ref a0)]) (st2 := [.int (lg_cmp (g.2 a0 1) (0 : Int64))]) (g2 := g) cdE_80 rfl ?_
    by_cases hc2 : (g.2 a0 1) = (0 : Int64)
    · rw [if_pos hc2] at h
      refine ev_zff rfl (lc_ne_f hc2) ?_
      refine ev_rn (n := 1) (i2 := 11) (L2 := [some (.ref a0)]) (st2 := [.ref a0]) (g2 := g) cdE_80 rfl ?_
      refine ev_gf (v := .long (g.2 a0 2)) rfl ha0 (by decide) rfl ?_
      refine ev_rn (n := 2) (i2 := 14) (L2 := [some (.ref a0)]) (st2 := [.int (lg_cmp (g.2 a0 2) (0 : Int64))]) (g2 := g) cdE_80 rfl ?_
      by_cases hc3 : (g.2 a0 2) = (0 : Int64)
      · rw [if_pos hc3] at h
        refine ev_zff rfl (lc_ne_f hc3) ?_
        refine ev_rn (n := 1) (i2 := 16) (L2 := [some (.ref a0)]) (st2 := [.ref a0]) (g2 := g) cdE_80 rfl ?_
        refine ev_gf (v := .long (g.2 a0 3)) rfl ha0 (by decide) rfl ?_
        refine ev_rn (n := 2) (i2 := 19) (L2 := [some (.ref a0)]) (st2 := [.int (lg_cmp (g.2 a0 3) (0 : Int64))]) (g2 := g) cdE_80 rfl ?_
        by_cases hc4 : (g.2 a0 3) = (0 : Int64)
        · rw [if_pos hc4] at h
          refine ev_zff rfl (lc_ne_f hc4) ?_
          refine ev_rn (n := 2) (i2 := 23) (L2 := [some (.ref a0)]) (st2 := [.int (1 : Int32)]) (g2 := g) cdE_80 rfl ?_
          subst h
          exact ev_ret rfl rt_1
        · rw [if_neg hc4] at h
          refine ev_zft cdE_80 rfl (lc_ne_t hc4) ?_
          refine ev_rn (n := 1) (i2 := 23) (L2 := [some (.ref a0)]) (st2 := [.int (0 : Int32)]) (g2 := g) cdE_80 rfl ?_
          subst h
          exact ev_ret rfl rt_0
      · rw [if_neg hc3] at h
        refine ev_zft cdE_80 rfl (lc_ne_t hc3) ?_
        refine ev_rn (n := 1) (i2 := 23) (L2 := [some (.ref a0)]) (st2 := [.int (0 : Int32)]) (g2 := g) cdE_80 rfl ?_
        subst h
        exact ev_ret rfl rt_0
    · rw [if_neg hc2] at h
      refine ev_zft cdE_80 rfl (lc_ne_t hc2) ?_
      refine ev_rn (n := 1) (i2 := 23) (L2 := [some (.ref a0)]) (st2 := [.int (0 : Int32)]) (g2 := g) cdE_80 rfl ?_
      subst h
      exact ev_ret rfl rt_0
  · rw [if_neg hc1] at h
    refine ev_zft cdE_80 rfl (lc_ne_t hc1) ?_
    refine ev_rn (n := 1) (i2 := 23) (L2 := [some (.ref a0)]) (st2 := [.int (0 : Int32)]) (g2 := g) cdE_80 rfl ?_
    subst h
    exact ev_ret rfl rt_0
def f_So_normOf (p0 : Int64) (p1 : Int64) (g : M2) : Int64 := ((p0 * p0) - (((3 : Int64) * p1) * p1))
theorem e_So_normOf {Lx : Nat} (p0 : Int64) (p1 : Int64)  (g : M2) {b : Int64} (h : f_So_normOf p0 p1 g = b) : Ev Lx 81 cd_81 0 [some (.long p0), none, some (.long p1), none] [] g (some (.long b), g) := by
  unfold f_So_normOf at h
  refine ev_rn (n := 9) (i2 := 9) (L2 := [some (.long p0), none, some (.long p1), none]) (st2 := [.long ((p0 * p0) - (((3 : Int64) * p1) * p1))]) (g2 := g) cdE_81 rfl ?_
  subst h
  exact ev_ret rfl rfl
def f_Nu_mirror (a0 : Nat) (p0 : Nat) (g : M2) : Option (M2) := (bd (uJ g a0 0 ((g.2 p0 0) + (g.2 p0 2))) fun g1 => (bd (uJ g1 a0 1 (g1.2 p0 1)) fun g2 => (bd (uJ g2 a0 2 (-(g2.2 p0 2))) fun g3 => (bd (uJ g3 a0 3 ((-(g3.2 p0 1)) - (g3.2 p0 3))) fun g4 => some g4))))
theorem e_Nu_mirror {Lx : Nat} (a0 : Nat) (p0 : Nat) (ha0 : IsNum a0) (hp0 : IsNum p0) (g : M2) {b : M2} (h : f_Nu_mirror a0 p0 g = some b) : Ev Lx 82 cd_82 0 [some (.ref a0), some (.ref p0)] [] g (none, b) := by
  unfold f_Nu_mirror at h
  refine ev_rn (n := 2) (i2 := 2) (L2 := [some (.ref a0), some (.ref p0)]) (st2 := [.ref p0, .ref a0]) (g2 := g) cdE_82 rfl ?_
  refine ev_gf (v := .long (g.2 p0 0)) rfl hp0 (by decide) rfl ?_
  refine ev_rn (n := 1) (i2 := 4) (L2 := [some (.ref a0), some (.ref p0)]) (st2 := [.ref p0, .long (g.2 p0 0), .ref a0]) (g2 := g) cdE_82 rfl ?_
  refine ev_gf (v := .long (g.2 p0 2)) rfl hp0 (by decide) rfl ?_
  refine ev_rn (n := 1) (i2 := 6) (L2 := [some (.ref a0), some (.ref p0)]) (st2 := [.long ((g.2 p0 0) + (g.2 p0 2)), .ref a0]) (g2 := g) cdE_82 rfl ?_
  refine bd_elim h (fun g1 hg1 h => ?_)
  refine ev_pf (g2 := g1) rfl ha0 (by decide) (by rw [hg1] <;> rfl) ?_
  refine ev_rn (n := 2) (i2 := 9) (L2 := [some (.ref a0), some (.ref p0)]) (st2 := [.ref p0, .ref a0]) (g2 := g1) cdE_82 rfl ?_
  refine ev_gf (v := .long (g1.2 p0 1)) rfl hp0 (by decide) rfl ?_
  refine bd_elim h (fun g2 hg2 h => ?_)
  refine ev_pf (g2 := g2) rfl ha0 (by decide) (by rw [hg2] <;> rfl) ?_
  refine ev_rn (n := 2) (i2 := 13) (L2 := [some (.ref a0), some (.ref p0)]) (st2 := [.ref p0, .ref a0]) (g2 := g2) cdE_82 rfl ?_
  refine ev_gf (v := .long (g2.2 p0 2)) rfl hp0 (by decide) rfl ?_
  refine ev_rn (n := 1) (i2 := 15) (L2 := [some (.ref a0), some (.ref p0)]) (st2 := [.long (-(g2.2 p0 2)), .ref a0]) (g2 := g2) cdE_82 rfl ?_
  refine bd_elim h (fun g3 hg3 h => ?_)
  refine ev_pf (g2 := g3) rfl ha0 (by decide) (by rw [hg3] <;> rfl) ?_
  refine ev_rn (n := 2) (i2 := 18) (L2 := [some (.ref a0), some (.ref p0)]) (st2 := [.ref p0, .ref a0]) (g2 := g3) cdE_82 rfl ?_
  refine ev_gf (v := .long (g3.2 p0 1)) rfl hp0 (by decide) rfl ?_
  refine ev_rn (n := 2) (i2 := 21) (L2 := [some (.ref a0), some (.ref p0)]) (st2 := [.ref p0, .long (-(g3.2 p0 1)), .ref a0]) (g2 := g3) cdE_82 rfl ?_
  refine ev_gf (v := .long (g3.2 p0 3)) rfl hp0 (by decide) rfl ?_
  refine ev_rn (n := 1) (i2 := 23) (L2 := [some (.ref a0), some (.ref p0)]) (st2 := [.long ((-(g3.2 p0 1)) - (g3.2 p0 3)), .ref a0]) (g2 := g3) cdE_82 rfl ?_
  refine bd_elim h (fun g4 hg4 h => ?_)
  refine ev_pf (g2 := g4) rfl ha0 (by decide) (by rw [hg4] <;> rfl) ?_
  cases h
  exact ev_ret rfl rfl
def f_Nu_multiply (a0 : Nat) (p0 : Nat) (p1 : Nat) (g : M2) : Option (M2) := (bd (uJ g a0 0 ((((g.2 p0 0) * (g.2 p1 0)) - ((((g.2 p0 1) * (g.2 p1 3)) + ((g.2 p0 2) * (g.2 p1 2))) + ((g.2 p0 3) * (g.2 p1 1)))) - ((g.2 p0 3) * (g.2 p1 3)))) fun g1 => (bd (uJ g1 a0 1 ((((g1.2 p0 0) * (g1.2 p1 1)) + ((g1.2 p0 1) * (g1.2 p1 0))) - (((g.2 p0 2) * (g.2 p1 3)) + ((g.2 p0 3) * (g.2 p1 2))))) fun g2 => (bd (uJ g2 a0 2 (((((g2.2 p0 0) * (g2.2 p1 2)) + ((g2.2 p0 1) * (g2.2 p1 1))) + ((g2.2 p0 2) * (g2.2 p1 0))) + ((((g.2 p0 1) * (g.2 p1 3)) + ((g.2 p0 2) * (g.2 p1 2))) + ((g.2 p0 3) * (g.2 p1 1))))) fun g3 => (bd (uJ g3 a0 3 ((((((g3.2 p0 0) * (g3.2 p1 3)) + ((g3.2 p0 1) * (g3.2 p1 2))) + ((g3.2 p0 2) * (g3.2 p1 1))) + ((g3.2 p0 3) * (g3.2 p1 0))) + (((g.2 p0 2) * (g.2 p1 3)) + ((g.2 p0 3) * (g.2 p1 2))))) fun g4 => some g4))))
theorem e_Nu_multiply {Lx : Nat} (a0 : Nat) (p0 : Nat) (p1 : Nat) (ha0 : IsNum a0) (hp0 : IsNum p0) (hp1 : IsNum p1) (g : M2) {b : M2} (h : f_Nu_multiply a0 p0 p1 g = some b) : Ev Lx 83 cd_83 0 [some (.ref a0), some (.ref p0), some (.ref p1)] [] g (none, b) := by
  unfold f_Nu_multiply at h
  refine ev_rn (n := 1) (i2 := 1) (L2 := [some (.ref a0), some (.ref p0), some (.ref p1)]) (st2 := [.ref p0]) (g2 := g) cdE_83 rfl ?_
  refine ev_gf (v := .long (g.2 p0 1)) rfl hp0 (by decide) rfl ?_
  refine ev_rn (n := 1) (i2 := 3) (L2 := [some (.ref a0), some (.ref p0), some (.ref p1)]) (st2 := [.ref p1, .long (g.2 p0 1)]) (g2 := g) cdE_83 rfl ?_
  refine ev_gf (v := .long (g.2 p1 3)) rfl hp1 (by decide) rfl ?_
  refine ev_rn (n := 2) (i2 := 6) (L2 := [some (.ref a0), some (.ref p0), some (.ref p1)]) (st2 := [.ref p0, .long ((g.2 p0 1) * (g.2 p1 3))]) (g2 := g) cdE_83 rfl ?_
  refine ev_gf (v := .long (g.2 p0 2)) rfl hp0 (by decide) rfl ?_
  refine ev_rn (n := 1) (i2 := 8) (L2 := [some (.ref a0), some (.ref p0), some (.ref p1)]) (st2 := [.ref p1, .long (g.2 p0 2), .long ((g.2 p0 1) * (g.2 p1 3))]) (g2 := g) cdE_83 rfl ?_
  refine ev_gf (v := .long (g.2 p1 2)) rfl hp1 (by decide) rfl ?_
  refine ev_rn (n := 3) (i2 := 12) (L2 := [some (.ref a0), some (.ref p0), some (.ref p1)]) (st2 := [.ref p0, .long (((g.2 p0 1) * (g.2 p1 3)) + ((g.2 p0 2) * (g.2 p1 2)))]) (g2 := g) cdE_83 rfl ?_
  refine ev_gf (v := .long (g.2 p0 3)) rfl hp0 (by decide) rfl ?_
  refine ev_rn (n := 1) (i2 := 14) (L2 := [some (.ref a0), some (.ref p0), some (.ref p1)]) (st2 := [.ref p1, .long (g.2 p0 3), .long (((g.2 p0 1) * (g.2 p1 3)) + ((g.2 p0 2) * (g.2 p1 2)))]) (g2 := g) cdE_83 rfl ?_
  refine ev_gf (v := .long (g.2 p1 1)) rfl hp1 (by decide) rfl ?_
  refine ev_rn (n := 3) (i2 := 18) (L2 := [some (.ref a0), some (.ref p0), some (.ref p1), some (.long ((((g.2 p0 1) * (g.2 p1 3)) + ((g.2 p0 2) * (g.2 p1 2))) + ((g.2 p0 3) * (g.2 p1 1)))), none]) (st2 := []) (g2 := g) cdE_83 rfl ?_
  refine ev_rn (n := 1) (i2 := 19) (L2 := [some (.ref a0), some (.ref p0), some (.ref p1), some (.long ((((g.2 p0 1) * (g.2 p1 3)) + ((g.2 p0 2) * (g.2 p1 2))) + ((g.2 p0 3) * (g.2 p1 1)))), none]) (st2 := [.ref p0]) (g2 := g) cdE_83 rfl ?_
  refine ev_gf (v := .long (g.2 p0 2)) rfl hp0 (by decide) rfl ?_
  refine ev_rn (n := 1) (i2 := 21) (L2 := [some (.ref a0), some (.ref p0), some (.ref p1), some (.long ((((g.2 p0 1) * (g.2 p1 3)) + ((g.2 p0 2) * (g.2 p1 2))) + ((g.2 p0 3) * (g.2 p1 1)))), none]) (st2 := [.ref p1, .long (g.2 p0 2)]) (g2 := g) cdE_83 rfl ?_
  refine ev_gf (v := .long (g.2 p1 3)) rfl hp1 (by decide) rfl ?_
  refine ev_rn (n := 2) (i2 := 24) (L2 := [some (.ref a0), some (.ref p0), some (.ref p1), some (.long ((((g.2 p0 1) * (g.2 p1 3)) + ((g.2 p0 2) * (g.2 p1 2))) + ((g.2 p0 3) * (g.2 p1 1)))), none]) (st2 := [.ref p0, .long ((g.2 p0 2) * (g.2 p1 3))]) (g2 := g) cdE_83 rfl ?_
  refine ev_gf (v := .long (g.2 p0 3)) rfl hp0 (by decide) rfl ?_
  refine ev_rn (n := 1) (i2 := 26) (L2 := [some (.ref a0), some (.ref p0), some (.ref p1), some (.long ((((g.2 p0 1) * (g.2 p1 3)) + ((g.2 p0 2) * (g.2 p1 2))) + ((g.2 p0 3) * (g.2 p1 1)))), none]) (st2 := [.ref p1, .long (g.2 p0 3), .long ((g.2 p0 2) * (g.2 p1 3))]) (g2 := g) cdE_83 rfl ?_
  refine ev_gf (v := .long (g.2 p1 2)) rfl hp1 (by decide) rfl ?_
  refine ev_rn (n := 3) (i2 := 30) (L2 := [some (.ref a0), some (.ref p0), some (.ref p1), some (.long ((((g.2 p0 1) * (g.2 p1 3)) + ((g.2 p0 2) * (g.2 p1 2))) + ((g.2 p0 3) * (g.2 p1 1)))), none, some (.long (((g.2 p0 2) * (g.2 p1 3)) + ((g.2 p0 3) * (g.2 p1 2)))), none]) (st2 := []) (g2 := g) cdE_83 rfl ?_
  refine ev_rn (n := 2) (i2 := 32) (L2 := [some (.ref a0), some (.ref p0), some (.ref p1), some (.long ((((g.2 p0 1) * (g.2 p1 3)) + ((g.2 p0 2) * (g.2 p1 2))) + ((g.2 p0 3) * (g.2 p1 1)))), none, some (.long (((g.2 p0 2) * (g.2 p1 3)) + ((g.2 p0 3) * (g.2 p1 2)))), none]) (st2 := [.ref p0, .ref a0]) (g2 := g) cdE_83 rfl ?_
  refine ev_gf (v := .long (g.2 p0 0)) rfl hp0 (by decide) rfl ?_
  refine ev_rn (n := 1) (i2 := 34) (L2 := [some (.ref a0), some (.ref p0), some (.ref p1), some (.long ((((g.2 p0 1) * (g.2 p1 3)) + ((g.2 p0 2) * (g.2 p1 2))) + ((g.2 p0 3) * (g.2 p1 1)))), none, some (.long (((g.2 p0 2) * (g.2 p1 3)) + ((g.2 p0 3) * (g.2 p1 2)))), none]) (st2 := [.ref p1, .long (g.2 p0 0), .ref a0]) (g2 := g) cdE_83 rfl ?_
  refine ev_gf (v := .long (g.2 p1 0)) rfl hp1 (by decide) rfl ?_
  refine ev_rn (n := 4) (i2 := 39) (L2 := [some (.ref a0), some (.ref p0), some (.ref p1), some (.long ((((g.2 p0 1) * (g.2 p1 3)) + ((g.2 p0 2) * (g.2 p1 2))) + ((g.2 p0 3) * (g.2 p1 1)))), none, some (.long (((g.2 p0 2) * (g.2 p1 3)) + ((g.2 p0 3) * (g.2 p1 2)))), none]) (st2 := [.ref p0, .long (((g.2 p0 0) * (g.2 p1 0)) - ((((g.2 p0 1) * (g.2 p1 3)) + ((g.2 p0 2) * (g.2 p1 2))) + ((g.2 p0 3) * (g.2 p1 1)))), .ref a0]) (g2 := g) cdE_83 rfl ?_
  refine ev_gf (v := .long (g.2 p0 3)) rfl hp0 (by decide) rfl ?_
  refine ev_rn (n := 1) (i2 := 41) (L2 := [some (.ref a0), some (.ref p0), some (.ref p1), some (.long ((((g.2 p0 1) * (g.2 p1 3)) + ((g.2 p0 2) * (g.2 p1 2))) + ((g.2 p0 3) * (g.2 p1 1)))), none, some (.long (((g.2 p0 2) * (g.2 p1 3)) + ((g.2 p0 3) * (g.2 p1 2)))), none]) (st2 := [.ref p1, .long (g.2 p0 3), .long (((g.2 p0 0) * (g.2 p1 0)) - ((((g.2 p0 1) * (g.2 p1 3)) + ((g.2 p0 2) * (g.2 p1 2))) + ((g.2 p0 3) * (g.2 p1 1)))), .ref a0]) (g2 := g) cdE_83 rfl ?_
  refine ev_gf (v := .long (g.2 p1 3)) rfl hp1 (by decide) rfl ?_
  refine ev_rn (n := 2) (i2 := 44) (L2 := [some (.ref a0), some (.ref p0), some (.ref p1), some (.long ((((g.2 p0 1) * (g.2 p1 3)) + ((g.2 p0 2) * (g.2 p1 2))) + ((g.2 p0 3) * (g.2 p1 1)))), none, some (.long (((g.2 p0 2) * (g.2 p1 3)) + ((g.2 p0 3) * (g.2 p1 2)))), none]) (st2 := [.long ((((g.2 p0 0) * (g.2 p1 0)) - ((((g.2 p0 1) * (g.2 p1 3)) + ((g.2 p0 2) * (g.2 p1 2))) + ((g.2 p0 3) * (g.2 p1 1)))) - ((g.2 p0 3) * (g.2 p1 3))), .ref a0]) (g2 := g) cdE_83 rfl ?_
  refine bd_elim h (fun g1 hg1 h => ?_)
  refine ev_pf (g2 := g1) rfl ha0 (by decide) (by rw [hg1] <;> rfl) ?_
  refine ev_rn (n := 2) (i2 := 47) (L2 := [some (.ref a0), some (.ref p0), some (.ref p1), some (.long ((((g.2 p0 1) * (g.2 p1 3)) + ((g.2 p0 2) * (g.2 p1 2))) + ((g.2 p0 3) * (g.2 p1 1)))), none, some (.long (((g.2 p0 2) * (g.2 p1 3)) + ((g.2 p0 3) * (g.2 p1 2)))), none]) (st2 := [.ref p0, .ref a0]) (g2 := g1) cdE_83 rfl ?_
  refine ev_gf (v := .long (g1.2 p0 0)) rfl hp0 (by decide) rfl ?_
  refine ev_rn (n := 1) (i2 := 49) (L2 := [some (.ref a0), some (.ref p0), some (.ref p1), some (.long ((((g.2 p0 1) * (g.2 p1 3)) + ((g.2 p0 2) * (g.2 p1 2))) + ((g.2 p0 3) * (g.2 p1 1)))), none, some (.long (((g.2 p0 2) * (g.2 p1 3)) + ((g.2 p0 3) * (g.2 p1 2)))), none]) (st2 := [.ref p1, .long (g1.2 p0 0), .ref a0]) (g2 := g1) cdE_83 rfl ?_
  refine ev_gf (v := .long (g1.2 p1 1)) rfl hp1 (by decide) rfl ?_
  refine ev_rn (n := 2) (i2 := 52) (L2 := [some (.ref a0), some (.ref p0), some (.ref p1), some (.long ((((g.2 p0 1) * (g.2 p1 3)) + ((g.2 p0 2) * (g.2 p1 2))) + ((g.2 p0 3) * (g.2 p1 1)))), none, some (.long (((g.2 p0 2) * (g.2 p1 3)) + ((g.2 p0 3) * (g.2 p1 2)))), none]) (st2 := [.ref p0, .long ((g1.2 p0 0) * (g1.2 p1 1)), .ref a0]) (g2 := g1) cdE_83 rfl ?_
  refine ev_gf (v := .long (g1.2 p0 1)) rfl hp0 (by decide) rfl ?_
  refine ev_rn (n := 1) (i2 := 54) (L2 := [some (.ref a0), some (.ref p0), some (.ref p1), some (.long ((((g.2 p0 1) * (g.2 p1 3)) + ((g.2 p0 2) * (g.2 p1 2))) + ((g.2 p0 3) * (g.2 p1 1)))), none, some (.long (((g.2 p0 2) * (g.2 p1 3)) + ((g.2 p0 3) * (g.2 p1 2)))), none]) (st2 := [.ref p1, .long (g1.2 p0 1), .long ((g1.2 p0 0) * (g1.2 p1 1)), .ref a0]) (g2 := g1) cdE_83 rfl ?_
  refine ev_gf (v := .long (g1.2 p1 0)) rfl hp1 (by decide) rfl ?_
  refine ev_rn (n := 4) (i2 := 59) (L2 := [some (.ref a0), some (.ref p0), some (.ref p1), some (.long ((((g.2 p0 1) * (g.2 p1 3)) + ((g.2 p0 2) * (g.2 p1 2))) + ((g.2 p0 3) * (g.2 p1 1)))), none, some (.long (((g.2 p0 2) * (g.2 p1 3)) + ((g.2 p0 3) * (g.2 p1 2)))), none]) (st2 := [.long ((((g1.2 p0 0) * (g1.2 p1 1)) + ((g1.2 p0 1) * (g1.2 p1 0))) - (((g.2 p0 2) * (g.2 p1 3)) + ((g.2 p0 3) * (g.2 p1 2)))), .ref a0]) (g2 := g1) cdE_83 rfl ?_
  refine bd_elim h (fun g2 hg2 h => ?_)
  refine ev_pf (g2 := g2) rfl ha0 (by decide) (by rw [hg2] <;> rfl) ?_
  refine ev_rn (n := 2) (i2 := 62) (L2 := [some (.ref a0), some (.ref p0), some (.ref p1), some (.long ((((g.2 p0 1) * (g.2 p1 3)) + ((g.2 p0 2) * (g.2 p1 2))) + ((g.2 p0 3) * (g.2 p1 1)))), none, some (.long (((g.2 p0 2) * (g.2 p1 3)) + ((g.2 p0 3) * (g.2 p1 2)))), none]) (st2 := [.ref p0, .ref a0]) (g2 := g2) cdE_83 rfl ?_
  refine ev_gf (v := .long (g2.2 p0 0)) rfl hp0 (by decide) rfl ?_
  refine ev_rn (n := 1) (i2 := 64) (L2 := [some (.ref a0), some (.ref p0), some (.ref p1), some (.long ((((g.2 p0 1) * (g.2 p1 3)) + ((g.2 p0 2) * (g.2 p1 2))) + ((g.2 p0 3) * (g.2 p1 1)))), none, some (.long (((g.2 p0 2) * (g.2 p1 3)) + ((g.2 p0 3) * (g.2 p1 2)))), none]) (st2 := [.ref p1, .long (g2.2 p0 0), .ref a0]) (g2 := g2) cdE_83 rfl ?_
  refine ev_gf (v := .long (g2.2 p1 2)) rfl hp1 (by decide) rfl ?_
  refine ev_rn (n := 2) (i2 := 67) (L2 := [some (.ref a0), some (.ref p0), some (.ref p1), some (.long ((((g.2 p0 1) * (g.2 p1 3)) + ((g.2 p0 2) * (g.2 p1 2))) + ((g.2 p0 3) * (g.2 p1 1)))), none, some (.long (((g.2 p0 2) * (g.2 p1 3)) + ((g.2 p0 3) * (g.2 p1 2)))), none]) (st2 := [.ref p0, .long ((g2.2 p0 0) * (g2.2 p1 2)), .ref a0]) (g2 := g2) cdE_83 rfl ?_
  refine ev_gf (v := .long (g2.2 p0 1)) rfl hp0 (by decide) rfl ?_
  refine ev_rn (n := 1) (i2 := 69) (L2 := [some (.ref a0), some (.ref p0), some (.ref p1), some (.long ((((g.2 p0 1) * (g.2 p1 3)) + ((g.2 p0 2) * (g.2 p1 2))) + ((g.2 p0 3) * (g.2 p1 1)))), none, some (.long (((g.2 p0 2) * (g.2 p1 3)) + ((g.2 p0 3) * (g.2 p1 2)))), none]) (st2 := [.ref p1, .long (g2.2 p0 1), .long ((g2.2 p0 0) * (g2.2 p1 2)), .ref a0]) (g2 := g2) cdE_83 rfl ?_
  refine ev_gf (v := .long (g2.2 p1 1)) rfl hp1 (by decide) rfl ?_
  refine ev_rn (n := 3) (i2 := 73) (L2 := [some (.ref a0), some (.ref p0), some (.ref p1), some (.long ((((g.2 p0 1) * (g.2 p1 3)) + ((g.2 p0 2) * (g.2 p1 2))) + ((g.2 p0 3) * (g.2 p1 1)))), none, some (.long (((g.2 p0 2) * (g.2 p1 3)) + ((g.2 p0 3) * (g.2 p1 2)))), none]) (st2 := [.ref p0, .long (((g2.2 p0 0) * (g2.2 p1 2)) + ((g2.2 p0 1) * (g2.2 p1 1))), .ref a0]) (g2 := g2) cdE_83 rfl ?_
  refine ev_gf (v := .long (g2.2 p0 2)) rfl hp0 (by decide) rfl ?_
  refine ev_rn (n := 1) (i2 := 75) (L2 := [some (.ref a0), some (.ref p0), some (.ref p1), some (.long ((((g.2 p0 1) * (g.2 p1 3)) + ((g.2 p0 2) * (g.2 p1 2))) + ((g.2 p0 3) * (g.2 p1 1)))), none, some (.long (((g.2 p0 2) * (g.2 p1 3)) + ((g.2 p0 3) * (g.2 p1 2)))), none]) (st2 := [.ref p1, .long (g2.2 p0 2), .long (((g2.2 p0 0) * (g2.2 p1 2)) + ((g2.2 p0 1) * (g2.2 p1 1))), .ref a0]) (g2 := g2) cdE_83 rfl ?_
  refine ev_gf (v := .long (g2.2 p1 0)) rfl hp1 (by decide) rfl ?_
  refine ev_rn (n := 4) (i2 := 80) (L2 := [some (.ref a0), some (.ref p0), some (.ref p1), some (.long ((((g.2 p0 1) * (g.2 p1 3)) + ((g.2 p0 2) * (g.2 p1 2))) + ((g.2 p0 3) * (g.2 p1 1)))), none, some (.long (((g.2 p0 2) * (g.2 p1 3)) + ((g.2 p0 3) * (g.2 p1 2)))), none]) (st2 := [.long (((((g2.2 p0 0) * (g2.2 p1 2)) + ((g2.2 p0 1) * (g2.2 p1 1))) + ((g2.2 p0 2) * (g2.2 p1 0))) + ((((g.2 p0 1) * (g.2 p1 3)) + ((g.2 p0 2) * (g.2 p1 2))) + ((g.2 p0 3) * (g.2 p1 1)))), .ref a0]) (g2 := g2) cdE_83 rfl ?_
  refine bd_elim h (fun g3 hg3 h => ?_)
  refine ev_pf (g2 := g3) rfl ha0 (by decide) (by rw [hg3] <;> rfl) ?_
  refine ev_rn (n := 2) (i2 := 83) (L2 := [some (.ref a0), some (.ref p0), some (.ref p1), some (.long ((((g.2 p0 1) * (g.2 p1 3)) + ((g.2 p0 2) * (g.2 p1 2))) + ((g.2 p0 3) * (g.2 p1 1)))), none, some (.long (((g.2 p0 2) * (g.2 p1 3)) + ((g.2 p0 3) * (g.2 p1 2)))), none]) (st2 := [.ref p0, .ref a0]) (g2 := g3) cdE_83 rfl ?_
  refine ev_gf (v := .long (g3.2 p0 0)) rfl hp0 (by decide) rfl ?_
  refine ev_rn (n := 1) (i2 := 85) (L2 := [some (.ref a0), some (.ref p0), some (.ref p1), some (.long ((((g.2 p0 1) * (g.2 p1 3)) + ((g.2 p0 2) * (g.2 p1 2))) + ((g.2 p0 3) * (g.2 p1 1)))), none, some (.long (((g.2 p0 2) * (g.2 p1 3)) + ((g.2 p0 3) * (g.2 p1 2)))), none]) (st2 := [.ref p1, .long (g3.2 p0 0), .ref a0]) (g2 := g3) cdE_83 rfl ?_
  refine ev_gf (v := .long (g3.2 p1 3)) rfl hp1 (by decide) rfl ?_
  refine ev_rn (n := 2) (i2 := 88) (L2 := [some (.ref a0), some (.ref p0), some (.ref p1), some (.long ((((g.2 p0 1) * (g.2 p1 3)) + ((g.2 p0 2) * (g.2 p1 2))) + ((g.2 p0 3) * (g.2 p1 1)))), none, some (.long (((g.2 p0 2) * (g.2 p1 3)) + ((g.2 p0 3) * (g.2 p1 2)))), none]) (st2 := [.ref p0, .long ((g3.2 p0 0) * (g3.2 p1 3)), .ref a0]) (g2 := g3) cdE_83 rfl ?_
  refine ev_gf (v := .long (g3.2 p0 1)) rfl hp0 (by decide) rfl ?_
  refine ev_rn (n := 1) (i2 := 90) (L2 := [some (.ref a0), some (.ref p0), some (.ref p1), some (.long ((((g.2 p0 1) * (g.2 p1 3)) + ((g.2 p0 2) * (g.2 p1 2))) + ((g.2 p0 3) * (g.2 p1 1)))), none, some (.long (((g.2 p0 2) * (g.2 p1 3)) + ((g.2 p0 3) * (g.2 p1 2)))), none]) (st2 := [.ref p1, .long (g3.2 p0 1), .long ((g3.2 p0 0) * (g3.2 p1 3)), .ref a0]) (g2 := g3) cdE_83 rfl ?_
  refine ev_gf (v := .long (g3.2 p1 2)) rfl hp1 (by decide) rfl ?_
  refine ev_rn (n := 3) (i2 := 94) (L2 := [some (.ref a0), some (.ref p0), some (.ref p1), some (.long ((((g.2 p0 1) * (g.2 p1 3)) + ((g.2 p0 2) * (g.2 p1 2))) + ((g.2 p0 3) * (g.2 p1 1)))), none, some (.long (((g.2 p0 2) * (g.2 p1 3)) + ((g.2 p0 3) * (g.2 p1 2)))), none]) (st2 := [.ref p0, .long (((g3.2 p0 0) * (g3.2 p1 3)) + ((g3.2 p0 1) * (g3.2 p1 2))), .ref a0]) (g2 := g3) cdE_83 rfl ?_
  refine ev_gf (v := .long (g3.2 p0 2)) rfl hp0 (by decide) rfl ?_
  refine ev_rn (n := 1) (i2 := 96) (L2 := [some (.ref a0), some (.ref p0), some (.ref p1), some (.long ((((g.2 p0 1) * (g.2 p1 3)) + ((g.2 p0 2) * (g.2 p1 2))) + ((g.2 p0 3) * (g.2 p1 1)))), none, some (.long (((g.2 p0 2) * (g.2 p1 3)) + ((g.2 p0 3) * (g.2 p1 2)))), none]) (st2 := [.ref p1, .long (g3.2 p0 2), .long (((g3.2 p0 0) * (g3.2 p1 3)) + ((g3.2 p0 1) * (g3.2 p1 2))), .ref a0]) (g2 := g3) cdE_83 rfl ?_
  refine ev_gf (v := .long (g3.2 p1 1)) rfl hp1 (by decide) rfl ?_
  refine ev_rn (n := 3) (i2 := 100) (L2 := [some (.ref a0), some (.ref p0), some (.ref p1), some (.long ((((g.2 p0 1) * (g.2 p1 3)) + ((g.2 p0 2) * (g.2 p1 2))) + ((g.2 p0 3) * (g.2 p1 1)))), none, some (.long (((g.2 p0 2) * (g.2 p1 3)) + ((g.2 p0 3) * (g.2 p1 2)))), none]) (st2 := [.ref p0, .long ((((g3.2 p0 0) * (g3.2 p1 3)) + ((g3.2 p0 1) * (g3.2 p1 2))) + ((g3.2 p0 2) * (g3.2 p1 1))), .ref a0]) (g2 := g3) cdE_83 rfl ?_
  refine ev_gf (v := .long (g3.2 p0 3)) rfl hp0 (by decide) rfl ?_
  refine ev_rn (n := 1) (i2 := 102) (L2 := [some (.ref a0), some (.ref p0), some (.ref p1), some (.long ((((g.2 p0 1) * (g.2 p1 3)) + ((g.2 p0 2) * (g.2 p1 2))) + ((g.2 p0 3) * (g.2 p1 1)))), none, some (.long (((g.2 p0 2) * (g.2 p1 3)) + ((g.2 p0 3) * (g.2 p1 2)))), none]) (st2 := [.ref p1, .long (g3.2 p0 3), .long ((((g3.2 p0 0) * (g3.2 p1 3)) + ((g3.2 p0 1) * (g3.2 p1 2))) + ((g3.2 p0 2) * (g3.2 p1 1))), .ref a0]) (g2 := g3) cdE_83 rfl ?_
  refine ev_gf (v := .long (g3.2 p1 0)) rfl hp1 (by decide) rfl ?_
  refine ev_rn (n := 4) (i2 := 107) (L2 := [some (.ref a0), some (.ref p0), some (.ref p1), some (.long ((((g.2 p0 1) * (g.2 p1 3)) + ((g.2 p0 2) * (g.2 p1 2))) + ((g.2 p0 3) * (g.2 p1 1)))), none, some (.long (((g.2 p0 2) * (g.2 p1 3)) + ((g.2 p0 3) * (g.2 p1 2)))), none]) (st2 := [.long ((((((g3.2 p0 0) * (g3.2 p1 3)) + ((g3.2 p0 1) * (g3.2 p1 2))) + ((g3.2 p0 2) * (g3.2 p1 1))) + ((g3.2 p0 3) * (g3.2 p1 0))) + (((g.2 p0 2) * (g.2 p1 3)) + ((g.2 p0 3) * (g.2 p1 2)))), .ref a0]) (g2 := g3) cdE_83 rfl ?_
  refine bd_elim h (fun g4 hg4 h => ?_)
  refine ev_pf (g2 := g4) rfl ha0 (by decide) (by rw [hg4] <;> rfl) ?_
  cases h
  exact ev_ret rfl rfl
def f_Nu_realX (a0 : Nat) (g : M2) : Int64 := (g.2 a0 0)
theorem e_Nu_realX {Lx : Nat} (a0 : Nat) (ha0 : IsNum a0) (g : M2) {b : Int64} (h : f_Nu_realX a0 g = b) : Ev Lx 84 cd_84 0 [some (.ref a0)] [] g (some (.long b), g) := by
  unfold f_Nu_realX at h
  refine ev_rn (n := 1) (i2 := 1) (L2 := [some (.ref a0)]) (st2 := [.ref a0]) (g2 := g) cdE_84 rfl ?_
  refine ev_gf (v := .long (g.2 a0 0)) rfl ha0 (by decide) rfl ?_
  subst h
  exact ev_ret rfl rfl
def f_Nu_realY (a0 : Nat) (g : M2) : Int64 := (-(g.2 a0 3))
theorem e_Nu_realY {Lx : Nat} (a0 : Nat) (ha0 : IsNum a0) (g : M2) {b : Int64} (h : f_Nu_realY a0 g = b) : Ev Lx 85 cd_85 0 [some (.ref a0)] [] g (some (.long b), g) := by
  unfold f_Nu_realY at h
  refine ev_rn (n := 1) (i2 := 1) (L2 := [some (.ref a0)]) (st2 := [.ref a0]) (g2 := g) cdE_85 rfl ?_
  refine ev_gf (v := .long (g.2 a0 3)) rfl ha0 (by decide) rfl ?_
  refine ev_rn (n := 1) (i2 := 3) (L2 := [some (.ref a0)]) (st2 := [.long (-(g.2 a0 3))]) (g2 := g) cdE_85 rfl ?_
  subst h
  exact ev_ret rfl rfl
def f_Nu_timesReal (a0 : Nat) (p0 : Int64) (p1 : Int64) (g : M2) : Option (M2) := (bd (uJ g a0 3 ((p0 * (g.2 a0 3)) + (p1 * ((g.2 a0 2) - (g.2 a0 0))))) fun g1 => (bd (uJ g1 a0 0 ((p0 * (g.2 a0 0)) + (p1 * ((g.2 a0 1) - (g.2 a0 3))))) fun g2 => (bd (uJ g2 a0 1 ((p0 * (g.2 a0 1)) + (p1 * (((2 : Int64) * (g.2 a0 0)) + (g.2 a0 2))))) fun g3 => (bd (uJ g3 a0 2 ((p0 * (g.2 a0 2)) + (p1 * ((g.2 a0 1) + ((2 : Int64) * (g.2 a0 3)))))) fun g4 => some g4))))
theorem e_Nu_timesReal {Lx : Nat} (a0 : Nat) (p0 : Int64) (p1 : Int64) (ha0 : IsNum a0) (g : M2) {b : M2} (h : f_Nu_timesReal a0 p0 p1 g = some b) : Ev Lx 86 cd_86 0 [some (.ref a0), some (.long p0), none, some (.long p1), none] [] g (none, b) := by
  unfold f_Nu_timesReal at h
  refine ev_rn (n := 2) (i2 := 2) (L2 := [some (.ref a0), some (.long p0), none, some (.long p1), none]) (st2 := [.ref a0, .long p0]) (g2 := g) cdE_86 rfl ?_
  refine ev_gf (v := .long (g.2 a0 0)) rfl ha0 (by decide) rfl ?_
  refine ev_rn (n := 3) (i2 := 6) (L2 := [some (.ref a0), some (.long p0), none, some (.long p1), none]) (st2 := [.ref a0, .long p1, .long (p0 * (g.2 a0 0))]) (g2 := g) cdE_86 rfl ?_
  refine ev_gf (v := .long (g.2 a0 1)) rfl ha0 (by decide) rfl ?_
  refine ev_rn (n := 1) (i2 := 8) (L2 := [some (.ref a0), some (.long p0), none, some (.long p1), none]) (st2 := [.ref a0, .long (g.2 a0 1), .long p1, .long (p0 * (g.2 a0 0))]) (g2 := g) cdE_86 rfl ?_
  refine ev_gf (v := .long (g.2 a0 3)) rfl ha0 (by decide) rfl ?_
  refine ev_rn (n := 4) (i2 := 13) (L2 := [some (.ref a0), some (.long p0), none, some (.long p1), none, some (.long ((p0 * (g.2 a0 0)) + (p1 * ((g.2 a0 1) - (g.2 a0 3))))), none]) (st2 := []) (g2 := g) cdE_86 rfl ?_
  refine ev_rn (n := 2) (i2 := 15) (L2 := [some (.ref a0), some (.long p0), none, some (.long p1), none, some (.long ((p0 * (g.2 a0 0)) + (p1 * ((g.2 a0 1) - (g.2 a0 3))))), none]) (st2 := [.ref a0, .long p0]) (g2 := g) cdE_86 rfl ?_
  refine ev_gf (v := .long (g.2 a0 1)) rfl ha0 (by decide) rfl ?_
  refine ev_rn (n := 4) (i2 := 20) (L2 := [some (.ref a0), some (.long p0), none, some (.long p1), none, some (.long ((p0 * (g.2 a0 0)) + (p1 * ((g.2 a0 1) - (g.2 a0 3))))), none]) (st2 := [.ref a0, .long (2 : Int64), .long p1, .long (p0 * (g.2 a0 1))]) (g2 := g) cdE_86 rfl ?_
  refine ev_gf (v := .long (g.2 a0 0)) rfl ha0 (by decide) rfl ?_
  refine ev_rn (n := 2) (i2 := 23) (L2 := [some (.ref a0), some (.long p0), none, some (.long p1), none, some (.long ((p0 * (g.2 a0 0)) + (p1 * ((g.2 a0 1) - (g.2 a0 3))))), none]) (st2 := [.ref a0, .long ((2 : Int64) * (g.2 a0 0)), .long p1, .long (p0 * (g.2 a0 1))]) (g2 := g) cdE_86 rfl ?_
  refine ev_gf (v := .long (g.2 a0 2)) rfl ha0 (by decide) rfl ?_
  refine ev_rn (n := 4) (i2 := 28) (L2 := [some (.ref a0), some (.long p0), none, some (.long p1), none, some (.long ((p0 * (g.2 a0 0)) + (p1 * ((g.2 a0 1) - (g.2 a0 3))))), none, some (.long ((p0 * (g.2 a0 1)) + (p1 * (((2 : Int64) * (g.2 a0 0)) + (g.2 a0 2))))), none]) (st2 := []) (g2 := g) cdE_86 rfl ?_
  refine ev_rn (n := 2) (i2 := 30) (L2 := [some (.ref a0), some (.long p0), none, some (.long p1), none, some (.long ((p0 * (g.2 a0 0)) + (p1 * ((g.2 a0 1) - (g.2 a0 3))))), none, some (.long ((p0 * (g.2 a0 1)) + (p1 * (((2 : Int64) * (g.2 a0 0)) + (g.2 a0 2))))), none]) (st2 := [.ref a0, .long p0]) (g2 := g) cdE_86 rfl ?_
  refine ev_gf (v := .long (g.2 a0 2)) rfl ha0 (by decide) rfl ?_
  refine ev_rn (n := 3) (i2 := 34) (L2 := [some (.ref a0), some (.long p0), none, some (.long p1), none, some (.long ((p0 * (g.2 a0 0)) + (p1 * ((g.2 a0 1) - (g.2 a0 3))))), none, some (.long ((p0 * (g.2 a0 1)) + (p1 * (((2 : Int64) * (g.2 a0 0)) + (g.2 a0 2))))), none]) (st2 := [.ref a0, .long p1, .long (p0 * (g.2 a0 2))]) (g2 := g) cdE_86 rfl ?_
  refine ev_gf (v := .long (g.2 a0 1)) rfl ha0 (by decide) rfl ?_
  refine ev_rn (n := 2) (i2 := 37) (L2 := [some (.ref a0), some (.long p0), none, some (.long p1), none, some (.long ((p0 * (g.2 a0 0)) + (p1 * ((g.2 a0 1) - (g.2 a0 3))))), none, some (.long ((p0 * (g.2 a0 1)) + (p1 * (((2 : Int64) * (g.2 a0 0)) + (g.2 a0 2))))), none]) (st2 := [.ref a0, .long (2 : Int64), .long (g.2 a0 1), .long p1, .long (p0 * (g.2 a0 2))]) (g2 := g) cdE_86 rfl ?_
  refine ev_gf (v := .long (g.2 a0 3)) rfl ha0 (by decide) rfl ?_
  refine ev_rn (n := 5) (i2 := 43) (L2 := [some (.ref a0), some (.long p0), none, some (.long p1), none, some (.long ((p0 * (g.2 a0 0)) + (p1 * ((g.2 a0 1) - (g.2 a0 3))))), none, some (.long ((p0 * (g.2 a0 1)) + (p1 * (((2 : Int64) * (g.2 a0 0)) + (g.2 a0 2))))), none, some (.long ((p0 * (g.2 a0 2)) + (p1 * ((g.2 a0 1) + ((2 : Int64) * (g.2 a0 3)))))), none]) (st2 := []) (g2 := g) cdE_86 rfl ?_
  refine ev_rn (n := 3) (i2 := 46) (L2 := [some (.ref a0), some (.long p0), none, some (.long p1), none, some (.long ((p0 * (g.2 a0 0)) + (p1 * ((g.2 a0 1) - (g.2 a0 3))))), none, some (.long ((p0 * (g.2 a0 1)) + (p1 * (((2 : Int64) * (g.2 a0 0)) + (g.2 a0 2))))), none, some (.long ((p0 * (g.2 a0 2)) + (p1 * ((g.2 a0 1) + ((2 : Int64) * (g.2 a0 3)))))), none]) (st2 := [.ref a0, .long p0, .ref a0]) (g2 := g) cdE_86 rfl ?_
  refine ev_gf (v := .long (g.2 a0 3)) rfl ha0 (by decide) rfl ?_
  refine ev_rn (n := 3) (i2 := 50) (L2 := [some (.ref a0), some (.long p0), none, some (.long p1), none, some (.long ((p0 * (g.2 a0 0)) + (p1 * ((g.2 a0 1) - (g.2 a0 3))))), none, some (.long ((p0 * (g.2 a0 1)) + (p1 * (((2 : Int64) * (g.2 a0 0)) + (g.2 a0 2))))), none, some (.long ((p0 * (g.2 a0 2)) + (p1 * ((g.2 a0 1) + ((2 : Int64) * (g.2 a0 3)))))), none]) (st2 := [.ref a0, .long p1, .long (p0 * (g.2 a0 3)), .ref a0]) (g2 := g) cdE_86 rfl ?_
  refine ev_gf (v := .long (g.2 a0 2)) rfl ha0 (by decide) rfl ?_
  refine ev_rn (n := 1) (i2 := 52) (L2 := [some (.ref a0), some (.long p0), none, some (.long p1), none, some (.long ((p0 * (g.2 a0 0)) + (p1 * ((g.2 a0 1) - (g.2 a0 3))))), none, some (.long ((p0 * (g.2 a0 1)) + (p1 * (((2 : Int64) * (g.2 a0 0)) + (g.2 a0 2))))), none, some (.long ((p0 * (g.2 a0 2)) + (p1 * ((g.2 a0 1) + ((2 : Int64) * (g.2 a0 3)))))), none]) (st2 := [.ref a0, .long (g.2 a0 2), .long p1, .long (p0 * (g.2 a0 3)), .ref a0]) (g2 := g) cdE_86 rfl ?_
  refine ev_gf (v := .long (g.2 a0 0)) rfl ha0 (by decide) rfl ?_
  refine ev_rn (n := 3) (i2 := 56) (L2 := [some (.ref a0), some (.long p0), none, some (.long p1), none, some (.long ((p0 * (g.2 a0 0)) + (p1 * ((g.2 a0 1) - (g.2 a0 3))))), none, some (.long ((p0 * (g.2 a0 1)) + (p1 * (((2 : Int64) * (g.2 a0 0)) + (g.2 a0 2))))), none, some (.long ((p0 * (g.2 a0 2)) + (p1 * ((g.2 a0 1) + ((2 : Int64) * (g.2 a0 3)))))), none]) (st2 := [.long ((p0 * (g.2 a0 3)) + (p1 * ((g.2 a0 2) - (g.2 a0 0)))), .ref a0]) (g2 := g) cdE_86 rfl ?_
  refine bd_elim h (fun g1 hg1 h => ?_)
  refine ev_pf (g2 := g1) rfl ha0 (by decide) (by rw [hg1] <;> rfl) ?_
  refine ev_rn (n := 2) (i2 := 59) (L2 := [some (.ref a0), some (.long p0), none, some (.long p1), none, some (.long ((p0 * (g.2 a0 0)) + (p1 * ((g.2 a0 1) - (g.2 a0 3))))), none, some (.long ((p0 * (g.2 a0 1)) + (p1 * (((2 : Int64) * (g.2 a0 0)) + (g.2 a0 2))))), none, some (.long ((p0 * (g.2 a0 2)) + (p1 * ((g.2 a0 1) + ((2 : Int64) * (g.2 a0 3)))))), none]) (st2 := [.long ((p0 * (g.2 a0 0)) + (p1 * ((g.2 a0 1) - (g.2 a0 3)))), .ref a0]) (g2 := g1) cdE_86 rfl ?_
  refine bd_elim h (fun g2 hg2 h => ?_)
  refine ev_pf (g2 := g2) rfl ha0 (by decide) (by rw [hg2] <;> rfl) ?_
  refine ev_rn (n := 2) (i2 := 62) (L2 := [some (.ref a0), some (.long p0), none, some (.long p1), none, some (.long ((p0 * (g.2 a0 0)) + (p1 * ((g.2 a0 1) - (g.2 a0 3))))), none, some (.long ((p0 * (g.2 a0 1)) + (p1 * (((2 : Int64) * (g.2 a0 0)) + (g.2 a0 2))))), none, some (.long ((p0 * (g.2 a0 2)) + (p1 * ((g.2 a0 1) + ((2 : Int64) * (g.2 a0 3)))))), none]) (st2 := [.long ((p0 * (g.2 a0 1)) + (p1 * (((2 : Int64) * (g.2 a0 0)) + (g.2 a0 2)))), .ref a0]) (g2 := g2) cdE_86 rfl ?_
  refine bd_elim h (fun g3 hg3 h => ?_)
  refine ev_pf (g2 := g3) rfl ha0 (by decide) (by rw [hg3] <;> rfl) ?_
  refine ev_rn (n := 2) (i2 := 65) (L2 := [some (.ref a0), some (.long p0), none, some (.long p1), none, some (.long ((p0 * (g.2 a0 0)) + (p1 * ((g.2 a0 1) - (g.2 a0 3))))), none, some (.long ((p0 * (g.2 a0 1)) + (p1 * (((2 : Int64) * (g.2 a0 0)) + (g.2 a0 2))))), none, some (.long ((p0 * (g.2 a0 2)) + (p1 * ((g.2 a0 1) + ((2 : Int64) * (g.2 a0 3)))))), none]) (st2 := [.long ((p0 * (g.2 a0 2)) + (p1 * ((g.2 a0 1) + ((2 : Int64) * (g.2 a0 3))))), .ref a0]) (g2 := g3) cdE_86 rfl ?_
  refine bd_elim h (fun g4 hg4 h => ?_)
  refine ev_pf (g2 := g4) rfl ha0 (by decide) (by rw [hg4] <;> rfl) ?_
  cases h
  exact ev_ret rfl rfl
def f_Nu_takeAway (a0 : Nat) (p0 : Nat) (g : M2) : Option (M2) := (bd (uJ g a0 0 ((g.2 a0 0) - (g.2 p0 0))) fun g1 => (bd (uJ g1 a0 1 ((g1.2 a0 1) - (g1.2 p0 1))) fun g2 => (bd (uJ g2 a0 2 ((g2.2 a0 2) - (g2.2 p0 2))) fun g3 => (bd (uJ g3 a0 3 ((g3.2 a0 3) - (g3.2 p0 3))) fun g4 => some g4))))
theorem e_Nu_takeAway {Lx : Nat} (a0 : Nat) (p0 : Nat) (ha0 : IsNum a0) (hp0 : IsNum p0) (g : M2) {b : M2} (h : f_Nu_takeAway a0 p0 g = some b) : Ev Lx 87 cd_87 0 [some (.ref a0), some (.ref p0)] [] g (none, b) := by
  unfold f_Nu_takeAway at h
  refine ev_rn (n := 2) (i2 := 2) (L2 := [some (.ref a0), some (.ref p0)]) (st2 := [.ref a0, .ref a0]) (g2 := g) cdE_87 rfl ?_
  refine ev_gf (v := .long (g.2 a0 0)) rfl ha0 (by decide) rfl ?_
  refine ev_rn (n := 1) (i2 := 4) (L2 := [some (.ref a0), some (.ref p0)]) (st2 := [.ref p0, .long (g.2 a0 0), .ref a0]) (g2 := g) cdE_87 rfl ?_
  refine ev_gf (v := .long (g.2 p0 0)) rfl hp0 (by decide) rfl ?_
  refine ev_rn (n := 1) (i2 := 6) (L2 := [some (.ref a0), some (.ref p0)]) (st2 := [.long ((g.2 a0 0) - (g.2 p0 0)), .ref a0]) (g2 := g) cdE_87 rfl ?_
  refine bd_elim h (fun g1 hg1 h => ?_)
  refine ev_pf (g2 := g1) rfl ha0 (by decide) (by rw [hg1] <;> rfl) ?_
  refine ev_rn (n := 2) (i2 := 9) (L2 := [some (.ref a0), some (.ref p0)]) (st2 := [.ref a0, .ref a0]) (g2 := g1) cdE_87 rfl ?_
  refine ev_gf (v := .long (g1.2 a0 1)) rfl ha0 (by decide) rfl ?_
  refine ev_rn (n := 1) (i2 := 11) (L2 := [some (.ref a0), some (.ref p0)]) (st2 := [.ref p0, .long (g1.2 a0 1), .ref a0]) (g2 := g1) cdE_87 rfl ?_
  refine ev_gf (v := .long (g1.2 p0 1)) rfl hp0 (by decide) rfl ?_
  refine ev_rn (n := 1) (i2 := 13) (L2 := [some (.ref a0), some (.ref p0)]) (st2 := [.long ((g1.2 a0 1) - (g1.2 p0 1)), .ref a0]) (g2 := g1) cdE_87 rfl ?_
  refine bd_elim h (fun g2 hg2 h => ?_)
  refine ev_pf (g2 := g2) rfl ha0 (by decide) (by rw [hg2] <;> rfl) ?_
  refine ev_rn (n := 2) (i2 := 16) (L2 := [some (.ref a0), some (.ref p0)]) (st2 := [.ref a0, .ref a0]) (g2 := g2) cdE_87 rfl ?_
  refine ev_gf (v := .long (g2.2 a0 2)) rfl ha0 (by decide) rfl ?_
  refine ev_rn (n := 1) (i2 := 18) (L2 := [some (.ref a0), some (.ref p0)]) (st2 := [.ref p0, .long (g2.2 a0 2), .ref a0]) (g2 := g2) cdE_87 rfl ?_
  refine ev_gf (v := .long (g2.2 p0 2)) rfl hp0 (by decide) rfl ?_
  refine ev_rn (n := 1) (i2 := 20) (L2 := [some (.ref a0), some (.ref p0)]) (st2 := [.long ((g2.2 a0 2) - (g2.2 p0 2)), .ref a0]) (g2 := g2) cdE_87 rfl ?_
  refine bd_elim h (fun g3 hg3 h => ?_)
  refine ev_pf (g2 := g3) rfl ha0 (by decide) (by rw [hg3] <;> rfl) ?_
  refine ev_rn (n := 2) (i2 := 23) (L2 := [some (.ref a0), some (.ref p0)]) (st2 := [.ref a0, .ref a0]) (g2 := g3) cdE_87 rfl ?_
  refine ev_gf (v := .long (g3.2 a0 3)) rfl ha0 (by decide) rfl ?_
  refine ev_rn (n := 1) (i2 := 25) (L2 := [some (.ref a0), some (.ref p0)]) (st2 := [.ref p0, .long (g3.2 a0 3), .ref a0]) (g2 := g3) cdE_87 rfl ?_
  refine ev_gf (v := .long (g3.2 p0 3)) rfl hp0 (by decide) rfl ?_
  refine ev_rn (n := 1) (i2 := 27) (L2 := [some (.ref a0), some (.ref p0)]) (st2 := [.long ((g3.2 a0 3) - (g3.2 p0 3)), .ref a0]) (g2 := g3) cdE_87 rfl ?_
  refine bd_elim h (fun g4 hg4 h => ?_)
  refine ev_pf (g2 := g4) rfl ha0 (by decide) (by rw [hg4] <;> rfl) ?_
  cases h
  exact ev_ret rfl rfl
def f_Nu_divide (a0 : Nat) (p0 : Int64) (g : M2) : Option (M2) := (if p0 = (0 : Int64) then some g else (if p0 = 0 then none else (bd (uJ g a0 0 ((g.2 a0 0) / p0)) fun g2 => (if p0 = 0 then none else (bd (uJ g2 a0 1 ((g2.2 a0 1) / p0)) fun g3 => (if p0 = 0 then none else (bd (uJ g3 a0 2 ((g3.2 a0 2) / p0)) fun g4 => (if p0 = 0 then none else (bd (uJ g4 a0 3 ((g4.2 a0 3) / p0)) fun g5 => some g5)))))))))
theorem e_Nu_divide {Lx : Nat} (a0 : Nat) (p0 : Int64) (ha0 : IsNum a0) (g : M2) {b : M2} (h : f_Nu_divide a0 p0 g = some b) : Ev Lx 88 cd_88 0 [some (.ref a0), some (.long p0), none] [] g (none, b) := by
  unfold f_Nu_divide at h
  refine ev_rn (n := 3) (i2 := 3) (L2 := [some (.ref a0), some (.long p0), none]) (st2 := [.int (lg_cmp p0 (0 : Int64))]) (g2 := g) cdE_88 rfl ?_
  by_cases hc1 : p0 = (0 : Int64)
  · rw [if_pos hc1] at h
    refine ev_zft cdE_88 rfl (lc_eq_t hc1) ?_
    cases h
    exact ev_ret rfl rfl
  · rw [if_neg hc1] at h
    refine ev_zff rfl (lc_eq_f hc1) ?_
    refine ev_rn (n := 2) (i2 := 6) (L2 := [some (.ref a0), some (.long p0), none]) (st2 := [.ref a0, .ref a0]) (g2 := g) cdE_88 rfl ?_
    refine ev_gf (v := .long (g.2 a0 0)) rfl ha0 (by decide) rfl ?_
    refine ev_rn (n := 1) (i2 := 8) (L2 := [some (.ref a0), some (.long p0), none]) (st2 := [.long p0, .long (g.2 a0 0), .ref a0]) (g2 := g) cdE_88 rfl ?_
    by_cases hd9 : p0 = 0
    · rw [if_pos hd9] at h
      cases h
    · rw [if_neg hd9] at h
      refine ev_ldiv rfl hd9 ?_
      refine bd_elim h (fun g2 hg2 h => ?_)
      refine ev_pf (g2 := g2) rfl ha0 (by decide) (by rw [hg2] <;> rfl) ?_
      refine ev_rn (n := 2) (i2 := 12) (L2 := [some (.ref a0), some (.long p0), none]) (st2 := [.ref a0, .ref a0]) (g2 := g2) cdE_88 rfl ?_
      refine ev_gf (v := .long (g2.2 a0 1)) rfl ha0 (by decide) rfl ?_
      refine ev_rn (n := 1) (i2 := 14) (L2 := [some (.ref a0), some (.long p0), none]) (st2 := [.long p0, .long (g2.2 a0 1), .ref a0]) (g2 := g2) cdE_88 rfl ?_
      by_cases hd8 : p0 = 0
      · rw [if_pos hd8] at h
        cases h
      · rw [if_neg hd8] at h
        refine ev_ldiv rfl hd8 ?_
        refine bd_elim h (fun g3 hg3 h => ?_)
        refine ev_pf (g2 := g3) rfl ha0 (by decide) (by rw [hg3] <;> rfl) ?_
        refine ev_rn (n := 2) (i2 := 18) (L2 := [some (.ref a0), some (.long p0), none]) (st2 := [.ref a0, .ref a0]) (g2 := g3) cdE_88 rfl ?_
        refine ev_gf (v := .long (g3.2 a0 2)) rfl ha0 (by decide) rfl ?_
        refine ev_rn (n := 1) (i2 := 20) (L2 := [some (.ref a0), some (.long p0), none]) (st2 := [.long p0, .long (g3.2 a0 2), .ref a0]) (g2 := g3) cdE_88 rfl ?_
        by_cases hd7 : p0 = 0
        · rw [if_pos hd7] at h
          cases h
        · rw [if_neg hd7] at h
          refine ev_ldiv rfl hd7 ?_
          refine bd_elim h (fun g4 hg4 h => ?_)
          refine ev_pf (g2 := g4) rfl ha0 (by decide) (by rw [hg4] <;> rfl) ?_
          refine ev_rn (n := 2) (i2 := 24) (L2 := [some (.ref a0), some (.long p0), none]) (st2 := [.ref a0, .ref a0]) (g2 := g4) cdE_88 rfl ?_
          refine ev_gf (v := .long (g4.2 a0 3)) rfl ha0 (by decide) rfl ?_
          refine ev_rn (n := 1) (i2 := 26) (L2 := [some (.ref a0), some (.long p0), none]) (st2 := [.long p0, .long (g4.2 a0 3), .ref a0]) (g2 := g4) cdE_88 rfl ?_
          by_cases hd6 : p0 = 0
          · rw [if_pos hd6] at h
            cases h
          · rw [if_neg hd6] at h
            refine ev_ldiv rfl hd6 ?_
            refine bd_elim h (fun g5 hg5 h => ?_)
            refine ev_pf (g2 := g5) rfl ha0 (by decide) (by rw [hg5] <;> rfl) ?_
            cases h
            exact ev_ret rfl rfl
def j_So_lowerRow_38 (v0 : Nat) (v1 : Int32) (v2 : Int32) (v3 : Nat) (v4 : Int64) (v6 : Int32) (g : M2) : Option ((Int32 × M2) ⊕ M2) := (if inb ((v2 * (6 : Int32)) + v6) 30 then (if inb ((v1 * (6 : Int32)) + v6) 30 then ((f_Nu_multiply (v0 + 65) (v0 + 64) ((v0 + 6) + 1 + ((v1 * (6 : Int32)) + v6).toNatClampNeg) g).bind fun q8 => ((f_Nu_timesReal ((v0 + 6) + 1 + ((v2 * (6 : Int32)) + v6).toNatClampNeg) (f_Nu_realX v3 q8) (f_Nu_realY v3 q8) q8).bind fun q9 => ((f_Nu_takeAway ((v0 + 6) + 1 + ((v2 * (6 : Int32)) + v6).toNatClampNeg) (v0 + 65) q9).bind fun q10 => (if (q10.1 v0 12) ≤ 0 then some (.inl ((v6 + (1 : Int32)), q10)) else ((f_Nu_timesReal ((v0 + 6) + 1 + ((v2 * (6 : Int32)) + v6).toNatClampNeg) (q10.2 v0 14) (-(q10.2 v0 15)) q10).bind fun q12 => ((f_Nu_divide ((v0 + 6) + 1 + ((v2 * (6 : Int32)) + v6).toNatClampNeg) v4 q12).bind fun q13 => some (.inl ((v6 + (1 : Int32)), q13)))))))) else none) else none)
theorem tj_So_lowerRow_38 {Lx : Nat}  (v0 : Nat) (v1 : Int32) (v2 : Int32) (v3 : Nat) (v4 : Int64) (v6 : Int32) (hv0 : IsSol v0) (hv3 : IsNum v3) (g : M2) {b : (Int32 × M2) ⊕ M2} {o : Option Value × M2} (h : j_So_lowerRow_38 v0 v1 v2 v3 v4 v6 g = some b) (hb : Sum.elim (fun s => Ev Lx 89 cd_89 28 [some (.ref v0), some (.int v1), some (.int v2), some (.ref v3), some (.long v4), none, some (.int s.1)] [] s.2 o) (fun e => Ev Lx 89 cd_89 85 [] [] e o) b) : Ev Lx 89 cd_89 38 [some (.ref v0), some (.int v1), some (.int v2), some (.ref v3), some (.long v4), none, some (.int v6)] [] g o := by
  unfold j_So_lowerRow_38 at h
  refine ev_rn (n := 1) (i2 := 39) (L2 := [some (.ref v0), some (.int v1), some (.int v2), some (.ref v3), some (.long v4), none, some (.int v6)]) (st2 := [.ref v0]) (g2 := g) cdE_89 rfl ?_
  refine ev_gf (v := .ref (v0 + 6)) rfl (so_at hv0) (by decide) rfl ?_
  refine ev_rn (n := 5) (i2 := 45) (L2 := [some (.ref v0), some (.int v1), some (.int v2), some (.ref v3), some (.long v4), none, some (.int v6)]) (st2 := [.int ((v2 * (6 : Int32)) + v6), .ref (v0 + 6)]) (g2 := g) cdE_89 rfl ?_
  by_cases hi6 : inb ((v2 * (6 : Int32)) + v6) 30
  · rw [if_pos hi6] at h
    refine ev_aaload (v := .ref ((v0 + 6) + 1 + ((v2 * (6 : Int32)) + v6).toNatClampNeg)) rfl (kd_of (na_at (so_6 hv0))) (by decide) hi6 (na_rf (w := (v0 + 6)) hi6.2) ?_
    refine ev_rn (n := 2) (i2 := 48) (L2 := [some (.ref v0), some (.int v1), some (.int v2), some (.ref v3), some (.long v4), none, some (.int v6), some (.ref ((v0 + 6) + 1 + ((v2 * (6 : Int32)) + v6).toNatClampNeg))]) (st2 := [.ref v0]) (g2 := g) cdE_89 rfl ?_
    refine ev_gf (v := .ref (v0 + 65)) rfl (so_at hv0) (by decide) rfl ?_
    refine ev_rn (n := 1) (i2 := 50) (L2 := [some (.ref v0), some (.int v1), some (.int v2), some (.ref v3), some (.long v4), none, some (.int v6), some (.ref ((v0 + 6) + 1 + ((v2 * (6 : Int32)) + v6).toNatClampNeg))]) (st2 := [.ref v0, .ref (v0 + 65)]) (g2 := g) cdE_89 rfl ?_
    refine ev_gf (v := .ref (v0 + 64)) rfl (so_at hv0) (by decide) rfl ?_
    refine ev_rn (n := 1) (i2 := 52) (L2 := [some (.ref v0), some (.int v1), some (.int v2), some (.ref v3), some (.long v4), none, some (.int v6), some (.ref ((v0 + 6) + 1 + ((v2 * (6 : Int32)) + v6).toNatClampNeg))]) (st2 := [.ref v0, .ref (v0 + 64), .ref (v0 + 65)]) (g2 := g) cdE_89 rfl ?_
    refine ev_gf (v := .ref (v0 + 6)) rfl (so_at hv0) (by decide) rfl ?_
    refine ev_rn (n := 5) (i2 := 58) (L2 := [some (.ref v0), some (.int v1), some (.int v2), some (.ref v3), some (.long v4), none, some (.int v6), some (.ref ((v0 + 6) + 1 + ((v2 * (6 : Int32)) + v6).toNatClampNeg))]) (st2 := [.int ((v1 * (6 : Int32)) + v6), .ref (v0 + 6), .ref (v0 + 64), .ref (v0 + 65)]) (g2 := g) cdE_89 rfl ?_
    by_cases hi7 : inb ((v1 * (6 : Int32)) + v6) 30
    · rw [if_pos hi7] at h
      refine ev_aaload (v := .ref ((v0 + 6) + 1 + ((v1 * (6 : Int32)) + v6).toNatClampNeg)) rfl (kd_of (na_at (so_6 hv0))) (by decide) hi7 (na_rf (w := (v0 + 6)) hi7.2) ?_
      obtain ⟨q8, hq8, h⟩ := Option.bind_eq_some_iff.mp h
      refine ev_call rfl cdE_83 (cokV rfl rfl (so_65 hv0) rfl) rfl rfl (e_Nu_multiply (v0 + 65) (v0 + 64) ((v0 + 6) + 1 + ((v1 * (6 : Int32)) + v6).toNatClampNeg) (so_65 hv0) (so_64 hv0) (na_el (so_6 hv0) hi7.2) g hq8) ?_
      refine ev_rn (n := 2) (i2 := 62) (L2 := [some (.ref v0), some (.int v1), some (.int v2), some (.ref v3), some (.long v4), none, some (.int v6), some (.ref ((v0 + 6) + 1 + ((v2 * (6 : Int32)) + v6).toNatClampNeg))]) (st2 := [.ref v3, .ref ((v0 + 6) + 1 + ((v2 * (6 : Int32)) + v6).toNatClampNeg)]) (g2 := q8) cdE_89 rfl ?_
      refine ev_call rfl cdE_84 (cokV rfl rfl hv3 rfl) rfl rfl (e_Nu_realX v3 hv3 q8 rfl) ?_
      refine ev_rn (n := 1) (i2 := 64) (L2 := [some (.ref v0), some (.int v1), some (.int v2), some (.ref v3), some (.long v4), none, some (.int v6), some (.ref ((v0 + 6) + 1 + ((v2 * (6 : Int32)) + v6).toNatClampNeg))]) (st2 := [.ref v3, .long (f_Nu_realX v3 q8), .ref ((v0 + 6) + 1 + ((v2 * (6 : Int32)) + v6).toNatClampNeg)]) (g2 := q8) cdE_89 rfl ?_
      refine ev_call rfl cdE_85 (cokV rfl rfl hv3 rfl) rfl rfl (e_Nu_realY v3 hv3 q8 rfl) ?_
      obtain ⟨q9, hq9, h⟩ := Option.bind_eq_some_iff.mp h
      refine ev_call rfl cdE_86 (cokV rfl rfl (na_el (so_6 hv0) hi6.2) rfl) rfl rfl (e_Nu_timesReal ((v0 + 6) + 1 + ((v2 * (6 : Int32)) + v6).toNatClampNeg) (f_Nu_realX v3 q8) (f_Nu_realY v3 q8) (na_el (so_6 hv0) hi6.2) q8 hq9) ?_
      refine ev_rn (n := 2) (i2 := 68) (L2 := [some (.ref v0), some (.int v1), some (.int v2), some (.ref v3), some (.long v4), none, some (.int v6), some (.ref ((v0 + 6) + 1 + ((v2 * (6 : Int32)) + v6).toNatClampNeg))]) (st2 := [.ref v0, .ref ((v0 + 6) + 1 + ((v2 * (6 : Int32)) + v6).toNatClampNeg)]) (g2 := q9) cdE_89 rfl ?_
      refine ev_gf (v := .ref (v0 + 65)) rfl (so_at hv0) (by decide) rfl ?_
      obtain ⟨q10, hq10, h⟩ := Option.bind_eq_some_iff.mp h
      refine ev_call rfl cdE_87 (cokV rfl rfl (na_el (so_6 hv0) hi6.2) rfl) rfl rfl (e_Nu_takeAway ((v0 + 6) + 1 + ((v2 * (6 : Int32)) + v6).toNatClampNeg) (v0 + 65) (na_el (so_6 hv0) hi6.2) (so_65 hv0) q9 hq10) ?_
      refine ev_rn (n := 1) (i2 := 71) (L2 := [some (.ref v0), some (.int v1), some (.int v2), some (.ref v3), some (.long v4), none, some (.int v6), some (.ref ((v0 + 6) + 1 + ((v2 * (6 : Int32)) + v6).toNatClampNeg))]) (st2 := [.ref v0]) (g2 := q10) cdE_89 rfl ?_
      refine ev_gf (v := .int (q10.1 v0 12)) rfl (so_at hv0) (by decide) rfl ?_
      by_cases hc11 : (q10.1 v0 12) ≤ 0
      · rw [if_pos hc11] at h
        refine ev_zft cdE_89 rfl (cn_t hc11) ?_
        refine ev_rn (n := 2) (i2 := 28) (L2 := [some (.ref v0), some (.int v1), some (.int v2), some (.ref v3), some (.long v4), none, some (.int (v6 + (1 : Int32))), some (.ref ((v0 + 6) + 1 + ((v2 * (6 : Int32)) + v6).toNatClampNeg))]) (st2 := []) (g2 := q10) cdE_89 rfl ?_
        cases h
        exact ev_wk (L := [some (.ref v0), some (.int v1), some (.int v2), some (.ref v3), some (.long v4), none, some (.int (v6 + (1 : Int32)))]) hb ⟨rfl, ⟨rfl, ⟨rfl, ⟨rfl, ⟨rfl, ⟨rfl, trivial⟩⟩⟩⟩⟩⟩
      · rw [if_neg hc11] at h
        refine ev_zff rfl (cn_f hc11) ?_
        refine ev_rn (n := 2) (i2 := 75) (L2 := [some (.ref v0), some (.int v1), some (.int v2), some (.ref v3), some (.long v4), none, some (.int v6), some (.ref ((v0 + 6) + 1 + ((v2 * (6 : Int32)) + v6).toNatClampNeg))]) (st2 := [.ref v0, .ref ((v0 + 6) + 1 + ((v2 * (6 : Int32)) + v6).toNatClampNeg)]) (g2 := q10) cdE_89 rfl ?_
        refine ev_gf (v := .long (q10.2 v0 14)) rfl (so_at hv0) (by decide) rfl ?_
        refine ev_rn (n := 1) (i2 := 77) (L2 := [some (.ref v0), some (.int v1), some (.int v2), some (.ref v3), some (.long v4), none, some (.int v6), some (.ref ((v0 + 6) + 1 + ((v2 * (6 : Int32)) + v6).toNatClampNeg))]) (st2 := [.ref v0, .long (q10.2 v0 14), .ref ((v0 + 6) + 1 + ((v2 * (6 : Int32)) + v6).toNatClampNeg)]) (g2 := q10) cdE_89 rfl ?_
        refine ev_gf (v := .long (q10.2 v0 15)) rfl (so_at hv0) (by decide) rfl ?_
        refine ev_rn (n := 1) (i2 := 79) (L2 := [some (.ref v0), some (.int v1), some (.int v2), some (.ref v3), some (.long v4), none, some (.int v6), some (.ref ((v0 + 6) + 1 + ((v2 * (6 : Int32)) + v6).toNatClampNeg))]) (st2 := [.long (-(q10.2 v0 15)), .long (q10.2 v0 14), .ref ((v0 + 6) + 1 + ((v2 * (6 : Int32)) + v6).toNatClampNeg)]) (g2 := q10) cdE_89 rfl ?_
        obtain ⟨q12, hq12, h⟩ := Option.bind_eq_some_iff.mp h
        refine ev_call rfl cdE_86 (cokV rfl rfl (na_el (so_6 hv0) hi6.2) rfl) rfl rfl (e_Nu_timesReal ((v0 + 6) + 1 + ((v2 * (6 : Int32)) + v6).toNatClampNeg) (q10.2 v0 14) (-(q10.2 v0 15)) (na_el (so_6 hv0) hi6.2) q10 hq12) ?_
        refine ev_rn (n := 2) (i2 := 82) (L2 := [some (.ref v0), some (.int v1), some (.int v2), some (.ref v3), some (.long v4), none, some (.int v6), some (.ref ((v0 + 6) + 1 + ((v2 * (6 : Int32)) + v6).toNatClampNeg))]) (st2 := [.long v4, .ref ((v0 + 6) + 1 + ((v2 * (6 : Int32)) + v6).toNatClampNeg)]) (g2 := q12) cdE_89 rfl ?_
        obtain ⟨q13, hq13, h⟩ := Option.bind_eq_some_iff.mp h
        refine ev_call rfl cdE_88 (cokV rfl rfl (na_el (so_6 hv0) hi6.2) rfl) rfl rfl (e_Nu_divide ((v0 + 6) + 1 + ((v2 * (6 : Int32)) + v6).toNatClampNeg) v4 (na_el (so_6 hv0) hi6.2) q12 hq13) ?_
        refine ev_rn (n := 2) (i2 := 28) (L2 := [some (.ref v0), some (.int v1), some (.int v2), some (.ref v3), some (.long v4), none, some (.int (v6 + (1 : Int32))), some (.ref ((v0 + 6) + 1 + ((v2 * (6 : Int32)) + v6).toNatClampNeg))]) (st2 := []) (g2 := q13) cdE_89 rfl ?_
        cases h
        exact ev_wk (L := [some (.ref v0), some (.int v1), some (.int v2), some (.ref v3), some (.long v4), none, some (.int (v6 + (1 : Int32)))]) hb ⟨rfl, ⟨rfl, ⟨rfl, ⟨rfl, ⟨rfl, ⟨rfl, trivial⟩⟩⟩⟩⟩⟩
    · rw [if_neg hi7] at h
      cases h
  · rw [if_neg hi6] at h
    cases h
def b_So_lowerRow_28 (v0 : Nat) (v1 : Int32) (v2 : Int32) (v3 : Nat) (v4 : Int64) (v6 : Int32) (g : M2) : Option ((Int32 × M2) ⊕ M2) := (if (6 : Int32) ≤ v6 then some (.inr g) else (if v6 < (g.1 v0 11) then (j_So_lowerRow_38 v0 v1 v2 v3 v4 v6 g) else (if v6 = (5 : Int32) then (j_So_lowerRow_38 v0 v1 v2 v3 v4 v6 g) else some (.inl ((v6 + (1 : Int32)), g)))))
theorem tb_So_lowerRow_28 {Lx : Nat} (v0 : Nat) (v1 : Int32) (v2 : Int32) (v3 : Nat) (v4 : Int64) (hv0 : IsSol v0) (hv3 : IsNum v3) (v6 : Int32) (g : M2) {b : (Int32 × M2) ⊕ M2} {o : Option Value × M2} (h : b_So_lowerRow_28 v0 v1 v2 v3 v4 v6 g = some b) (hb : Sum.elim (fun s => Ev Lx 89 cd_89 28 [some (.ref v0), some (.int v1), some (.int v2), some (.ref v3), some (.long v4), none, some (.int s.1)] [] s.2 o) (fun e => Ev Lx 89 cd_89 85 [] [] e o) b) : Ev Lx 89 cd_89 28 [some (.ref v0), some (.int v1), some (.int v2), some (.ref v3), some (.long v4), none, some (.int v6)] [] g o := by
  unfold b_So_lowerRow_28 at h
  refine ev_rn (n := 2) (i2 := 30) (L2 := [some (.ref v0), some (.int v1), some (.int v2), some (.ref v3), some (.long v4), none, some (.int v6)]) (st2 := [.int (6 : Int32), .int v6]) (g2 := g) cdE_89 rfl ?_
  by_cases hc4 : (6 : Int32) ≤ v6
  · rw [if_pos hc4] at h
    refine ev_ift cdE_89 rfl (cn_t hc4) ?_
    cases h
    exact ev_wk (L := []) hb trivial
  · rw [if_neg hc4] at h
    refine ev_iff rfl (cn_f hc4) ?_
    refine ev_rn (n := 2) (i2 := 33) (L2 := [some (.ref v0), some (.int v1), some (.int v2), some (.ref v3), some (.long v4), none, some (.int v6)]) (st2 := [.ref v0, .int v6]) (g2 := g) cdE_89 rfl ?_
    refine ev_gf (v := .int (g.1 v0 11)) rfl (so_at hv0) (by decide) rfl ?_
    by_cases hc5 : v6 < (g.1 v0 11)
    · rw [if_pos hc5] at h
      refine ev_ift cdE_89 rfl (cn_t hc5) ?_
      exact ev_wk (L := [some (.ref v0), some (.int v1), some (.int v2), some (.ref v3), some (.long v4), none, some (.int v6)]) (tj_So_lowerRow_38  v0 v1 v2 v3 v4 v6 hv0 hv3 g h hb) ⟨rfl, ⟨rfl, ⟨rfl, ⟨rfl, ⟨rfl, ⟨rfl, trivial⟩⟩⟩⟩⟩⟩
    · rw [if_neg hc5] at h
      refine ev_iff rfl (cn_f hc5) ?_
      refine ev_rn (n := 2) (i2 := 37) (L2 := [some (.ref v0), some (.int v1), some (.int v2), some (.ref v3), some (.long v4), none, some (.int v6)]) (st2 := [.int (5 : Int32), .int v6]) (g2 := g) cdE_89 rfl ?_
      by_cases hc14 : v6 = (5 : Int32)
      · rw [if_pos hc14] at h
        refine ev_iff rfl (cn_f (fun q => q hc14)) ?_
        exact ev_wk (L := [some (.ref v0), some (.int v1), some (.int v2), some (.ref v3), some (.long v4), none, some (.int v6)]) (tj_So_lowerRow_38  v0 v1 v2 v3 v4 v6 hv0 hv3 g h hb) ⟨rfl, ⟨rfl, ⟨rfl, ⟨rfl, ⟨rfl, ⟨rfl, trivial⟩⟩⟩⟩⟩⟩
      · rw [if_neg hc14] at h
        refine ev_ift cdE_89 rfl (cn_t hc14) ?_
        refine ev_rn (n := 2) (i2 := 28) (L2 := [some (.ref v0), some (.int v1), some (.int v2), some (.ref v3), some (.long v4), none, some (.int (v6 + (1 : Int32)))]) (st2 := []) (g2 := g) cdE_89 rfl ?_
        cases h
        exact ev_wk (L := [some (.ref v0), some (.int v1), some (.int v2), some (.ref v3), some (.long v4), none, some (.int (v6 + (1 : Int32)))]) hb ⟨rfl, ⟨rfl, ⟨rfl, ⟨rfl, ⟨rfl, ⟨rfl, trivial⟩⟩⟩⟩⟩⟩
def f_So_lowerRow (a0 : Nat) (p0 : Int32) (p1 : Int32) (g : M2) : Option (M2) := (if inb ((p0 * (6 : Int32)) + p0) 30 then (if inb ((p0 * (6 : Int32)) + p1) 30 then ((f_Nu_mirror (a0 + 64) ((a0 + 6) + 1 + ((p0 * (6 : Int32)) + p1).toNatClampNeg) g).bind fun q3 => ((lp (fun s => b_So_lowerRow_28 a0 p0 p1 ((a0 + 6) + 1 + ((p0 * (6 : Int32)) + p0).toNatClampNeg) (f_So_normOf (g.2 a0 14) (g.2 a0 15) g) s.1 s.2) 5000 (p1, q3)).bind fun e15 => some e15)) else none) else none)
theorem e_So_lowerRow {Lx : Nat} (a0 : Nat) (p0 : Int32) (p1 : Int32) (ha0 : IsSol a0) (g : M2) {b : M2} (h : f_So_lowerRow a0 p0 p1 g = some b) : Ev Lx 89 cd_89 0 [some (.ref a0), some (.int p0), some (.int p1)] [] g (none, b) := by
  unfold f_So_lowerRow at h
  refine ev_rn (n := 1) (i2 := 1) (L2 := [some (.ref a0), some (.int p0), some (.int p1)]) (st2 := [.ref a0]) (g2 := g) cdE_89 rfl ?_
  refine ev_gf (v := .ref (a0 + 6)) rfl (so_at ha0) (by decide) rfl ?_
  refine ev_rn (n := 5) (i2 := 7) (L2 := [some (.ref a0), some (.int p0), some (.int p1)]) (st2 := [.int ((p0 * (6 : Int32)) + p0), .ref (a0 + 6)]) (g2 := g) cdE_89 rfl ?_
  by_cases hi1 : inb ((p0 * (6 : Int32)) + p0) 30
  · rw [if_pos hi1] at h
    refine ev_aaload (v := .ref ((a0 + 6) + 1 + ((p0 * (6 : Int32)) + p0).toNatClampNeg)) rfl (kd_of (na_at (so_6 ha0))) (by decide) hi1 (na_rf (w := (a0 + 6)) hi1.2) ?_
    refine ev_rn (n := 2) (i2 := 10) (L2 := [some (.ref a0), some (.int p0), some (.int p1), some (.ref ((a0 + 6) + 1 + ((p0 * (6 : Int32)) + p0).toNatClampNeg))]) (st2 := [.ref a0]) (g2 := g) cdE_89 rfl ?_
    refine ev_gf (v := .long (g.2 a0 14)) rfl (so_at ha0) (by decide) rfl ?_
    refine ev_rn (n := 1) (i2 := 12) (L2 := [some (.ref a0), some (.int p0), some (.int p1), some (.ref ((a0 + 6) + 1 + ((p0 * (6 : Int32)) + p0).toNatClampNeg))]) (st2 := [.ref a0, .long (g.2 a0 14)]) (g2 := g) cdE_89 rfl ?_
    refine ev_gf (v := .long (g.2 a0 15)) rfl (so_at ha0) (by decide) rfl ?_
    refine ev_call rfl cdE_81 rfl rfl rfl (e_So_normOf (g.2 a0 14) (g.2 a0 15)  g rfl) ?_
    refine ev_rn (n := 1) (i2 := 15) (L2 := [some (.ref a0), some (.int p0), some (.int p1), some (.ref ((a0 + 6) + 1 + ((p0 * (6 : Int32)) + p0).toNatClampNeg)), some (.long (f_So_normOf (g.2 a0 14) (g.2 a0 15) g)), none]) (st2 := []) (g2 := g) cdE_89 rfl ?_
    refine ev_rn (n := 1) (i2 := 16) (L2 := [some (.ref a0), some (.int p0), some (.int p1), some (.ref ((a0 + 6) + 1 + ((p0 * (6 : Int32)) + p0).toNatClampNeg)), some (.long (f_So_normOf (g.2 a0 14) (g.2 a0 15) g)), none]) (st2 := [.ref a0]) (g2 := g) cdE_89 rfl ?_
    refine ev_gf (v := .ref (a0 + 64)) rfl (so_at ha0) (by decide) rfl ?_
    refine ev_rn (n := 1) (i2 := 18) (L2 := [some (.ref a0), some (.int p0), some (.int p1), some (.ref ((a0 + 6) + 1 + ((p0 * (6 : Int32)) + p0).toNatClampNeg)), some (.long (f_So_normOf (g.2 a0 14) (g.2 a0 15) g)), none]) (st2 := [.ref a0, .ref (a0 + 64)]) (g2 := g) cdE_89 rfl ?_
    refine ev_gf (v := .ref (a0 + 6)) rfl (so_at ha0) (by decide) rfl ?_
    refine ev_rn (n := 5) (i2 := 24) (L2 := [some (.ref a0), some (.int p0), some (.int p1), some (.ref ((a0 + 6) + 1 + ((p0 * (6 : Int32)) + p0).toNatClampNeg)), some (.long (f_So_normOf (g.2 a0 14) (g.2 a0 15) g)), none]) (st2 := [.int ((p0 * (6 : Int32)) + p1), .ref (a0 + 6), .ref (a0 + 64)]) (g2 := g) cdE_89 rfl ?_
    by_cases hi2 : inb ((p0 * (6 : Int32)) + p1) 30
    · rw [if_pos hi2] at h
      refine ev_aaload (v := .ref ((a0 + 6) + 1 + ((p0 * (6 : Int32)) + p1).toNatClampNeg)) rfl (kd_of (na_at (so_6 ha0))) (by decide) hi2 (na_rf (w := (a0 + 6)) hi2.2) ?_
      obtain ⟨q3, hq3, h⟩ := Option.bind_eq_some_iff.mp h
      refine ev_call rfl cdE_82 (cokV rfl rfl (so_64 ha0) rfl) rfl rfl (e_Nu_mirror (a0 + 64) ((a0 + 6) + 1 + ((p0 * (6 : Int32)) + p1).toNatClampNeg) (so_64 ha0) (na_el (so_6 ha0) hi2.2) g hq3) ?_
      refine ev_rn (n := 2) (i2 := 28) (L2 := [some (.ref a0), some (.int p0), some (.int p1), some (.ref ((a0 + 6) + 1 + ((p0 * (6 : Int32)) + p0).toNatClampNeg)), some (.long (f_So_normOf (g.2 a0 14) (g.2 a0 15) g)), none, some (.int p1)]) (st2 := []) (g2 := q3) cdE_89 rfl ?_
      obtain ⟨e15, he15, h⟩ := Option.bind_eq_some_iff.mp h
      have hX16 : Ev Lx 89 cd_89 85 [] [] e15 (none, b) := by
        cases h
        exact ev_ret rfl rfl
      exact ev_wk (L := [some (.ref a0), some (.int p0), some (.int p1), some (.ref ((a0 + 6) + 1 + ((p0 * (6 : Int32)) + p0).toNatClampNeg)), some (.long (f_So_normOf (g.2 a0 14) (g.2 a0 15) g)), none, some (.int p1)]) (lp_ind (P := (fun (s : (Int32 × M2)) => Ev Lx 89 cd_89 28 [some (.ref a0), some (.int p0), some (.int p1), some (.ref ((a0 + 6) + 1 + ((p0 * (6 : Int32)) + p0).toNatClampNeg)), some (.long (f_So_normOf (g.2 a0 14) (g.2 a0 15) g)), none, some (.int s.1)] [] s.2 (none, b))) (fun s s2 hs hP => tb_So_lowerRow_28 a0 p0 p1 ((a0 + 6) + 1 + ((p0 * (6 : Int32)) + p0).toNatClampNeg) (f_So_normOf (g.2 a0 14) (g.2 a0 15) g) ha0 (na_el (so_6 ha0) hi1.2) s.1 s.2 (b := .inl s2) hs hP) (fun s hs => tb_So_lowerRow_28 a0 p0 p1 ((a0 + 6) + 1 + ((p0 * (6 : Int32)) + p0).toNatClampNeg) (f_So_normOf (g.2 a0 14) (g.2 a0 15) g) ha0 (na_el (so_6 ha0) hi1.2) s.1 s.2 (b := .inr e15) hs hX16) _ _ he15) ⟨rfl, ⟨rfl, ⟨rfl, ⟨rfl, ⟨rfl, ⟨rfl, trivial⟩⟩⟩⟩⟩⟩
    · rw [if_neg hi2] at h
      cases h
  · rw [if_neg hi1] at h
    cases h
def b_So_eliminate_58 (v0 : Nat) (v1 : Int32) (v2 : Nat) (v3 : Int32) (g : M2) : Option ((Int32 × M2) ⊕ M2) := (if (g.1 v0 11) ≤ v3 then some (.inr g) else ((f_So_lowerRow v0 v1 v3 g).bind fun q10 => some (.inl ((v3 + (1 : Int32)), q10))))
theorem tb_So_eliminate_58 {Lx : Nat} (v0 : Nat) (v1 : Int32) (v2 : Nat) (hv0 : IsSol v0) (hv2 : IsNum v2) (v3 : Int32) (g : M2) {b : (Int32 × M2) ⊕ M2} {o : Option Value × M2} (h : b_So_eliminate_58 v0 v1 v2 v3 g = some b) (hb : Sum.elim (fun s => Ev Lx 90 cd_90 58 [some (.ref v0), some (.int v1), some (.ref v2), some (.int s.1)] [] s.2 o) (fun e => Ev Lx 90 cd_90 68 [some (.ref v0), some (.int v1), some (.ref v2)] [] e o) b) : Ev Lx 90 cd_90 58 [some (.ref v0), some (.int v1), some (.ref v2), some (.int v3)] [] g o := by
  unfold b_So_eliminate_58 at h
  refine ev_rn (n := 2) (i2 := 60) (L2 := [some (.ref v0), some (.int v1), some (.ref v2), some (.int v3)]) (st2 := [.ref v0, .int v3]) (g2 := g) cdE_90 rfl ?_
  refine ev_gf (v := .int (g.1 v0 11)) rfl (so_at hv0) (by decide) rfl ?_
  by_cases hc9 : (g.1 v0 11) ≤ v3
  · rw [if_pos hc9] at h
    refine ev_ift cdE_90 rfl (cn_t hc9) ?_
    cases h
    exact ev_wk (L := [some (.ref v0), some (.int v1), some (.ref v2)]) hb ⟨rfl, ⟨rfl, ⟨rfl, trivial⟩⟩⟩
  · rw [if_neg hc9] at h
    refine ev_iff rfl (cn_f hc9) ?_
    refine ev_rn (n := 3) (i2 := 65) (L2 := [some (.ref v0), some (.int v1), some (.ref v2), some (.int v3)]) (st2 := [.int v3, .int v1, .ref v0]) (g2 := g) cdE_90 rfl ?_
    obtain ⟨q10, hq10, h⟩ := Option.bind_eq_some_iff.mp h
    refine ev_call rfl cdE_89 (cokV rfl rfl (so_at hv0) rfl) rfl rfl (e_So_lowerRow v0 v1 v3 hv0 g hq10) ?_
    refine ev_rn (n := 2) (i2 := 58) (L2 := [some (.ref v0), some (.int v1), some (.ref v2), some (.int (v3 + (1 : Int32)))]) (st2 := []) (g2 := q10) cdE_90 rfl ?_
    cases h
    exact ev_wk (L := [some (.ref v0), some (.int v1), some (.ref v2), some (.int (v3 + (1 : Int32)))]) hb ⟨rfl, ⟨rfl, ⟨rfl, ⟨rfl, trivial⟩⟩⟩⟩
def b_So_eliminate_11 (v0 : Nat) (v1 : Int32) (g : M2) : Option ((Int32 × M2) ⊕ M2) := (if (g.1 v0 11) ≤ v1 then some (.inr g) else (if inb ((v1 * (6 : Int32)) + v1) 30 then (if inb v1 5 then (bd (uI g (v0 + 5) v1.toNatClampNeg ((f_Nu_isZero ((v0 + 6) + 1 + ((v1 * (6 : Int32)) + v1).toNatClampNeg) g) &&& 1)) fun g6 => (if inb v1 5 then (if (g6.1 (v0 + 5) v1.toNatClampNeg) = 0 then ((lp (fun s => b_So_eliminate_58 v0 v1 ((v0 + 6) + 1 + ((v1 * (6 : Int32)) + v1).toNatClampNeg) s.1 s.2) 5000 ((v1 + (1 : Int32)), g6)).bind fun e11 => (bd (uI e11 v0 12 ((e11.1 v0 12) + (1 : Int32))) fun g12 => (bd (uJ g12 v0 14 (f_Nu_realX ((v0 + 6) + 1 + ((v1 * (6 : Int32)) + v1).toNatClampNeg) g12)) fun g13 => (bd (uJ g13 v0 15 (f_Nu_realY ((v0 + 6) + 1 + ((v1 * (6 : Int32)) + v1).toNatClampNeg) g13)) fun g14 => some (.inl ((v1 + (1 : Int32)), g14)))))) else (if (g6.1 v0 13) = 0 then (bd (uI g6 v0 13 (0 : Int32)) fun g17 => some (.inl ((v1 + (1 : Int32)), g17))) else (if inb ((v1 * (6 : Int32)) + (5 : Int32)) 30 then (if (f_Nu_isZero ((v0 + 6) + 1 + ((v1 * (6 : Int32)) + (5 : Int32)).toNatClampNeg) g6) = 0 then (bd (uI g6 v0 13 (0 : Int32)) fun g20 => some (.inl ((v1 + (1 : Int32)), g20))) else (bd (uI g6 v0 13 (1 : Int32)) fun g21 => some (.inl ((v1 + (1 : Int32)), g21)))) else none))) else none)) else none) else none))
theorem tb_So_eliminate_11 {Lx : Nat} (v0 : Nat) (hv0 : IsSol v0) (v1 : Int32) (g : M2) {b : (Int32 × M2) ⊕ M2} {o : Option Value × M2} (h : b_So_eliminate_11 v0 v1 g = some b) (hb : Sum.elim (fun s => Ev Lx 90 cd_90 11 [some (.ref v0), some (.int s.1)] [] s.2 o) (fun e => Ev Lx 90 cd_90 84 [] [] e o) b) : Ev Lx 90 cd_90 11 [some (.ref v0), some (.int v1)] [] g o := by
  unfold b_So_eliminate_11 at h
  refine ev_rn (n := 2) (i2 := 13) (L2 := [some (.ref v0), some (.int v1)]) (st2 := [.ref v0, .int v1]) (g2 := g) cdE_90 rfl ?_
  refine ev_gf (v := .int (g.1 v0 11)) rfl (so_at hv0) (by decide) rfl ?_
  by_cases hc4 : (g.1 v0 11) ≤ v1
  · rw [if_pos hc4] at h
    refine ev_ift cdE_90 rfl (cn_t hc4) ?_
    cases h
    exact ev_wk (L := []) hb trivial
  · rw [if_neg hc4] at h
    refine ev_iff rfl (cn_f hc4) ?_
    refine ev_rn (n := 1) (i2 := 16) (L2 := [some (.ref v0), some (.int v1)]) (st2 := [.ref v0]) (g2 := g) cdE_90 rfl ?_
    refine ev_gf (v := .ref (v0 + 6)) rfl (so_at hv0) (by decide) rfl ?_
    refine ev_rn (n := 5) (i2 := 22) (L2 := [some (.ref v0), some (.int v1)]) (st2 := [.int ((v1 * (6 : Int32)) + v1), .ref (v0 + 6)]) (g2 := g) cdE_90 rfl ?_
    by_cases hi5 : inb ((v1 * (6 : Int32)) + v1) 30
    · rw [if_pos hi5] at h
      refine ev_aaload (v := .ref ((v0 + 6) + 1 + ((v1 * (6 : Int32)) + v1).toNatClampNeg)) rfl (kd_of (na_at (so_6 hv0))) (by decide) hi5 (na_rf (w := (v0 + 6)) hi5.2) ?_
      refine ev_rn (n := 2) (i2 := 25) (L2 := [some (.ref v0), some (.int v1), some (.ref ((v0 + 6) + 1 + ((v1 * (6 : Int32)) + v1).toNatClampNeg))]) (st2 := [.ref v0]) (g2 := g) cdE_90 rfl ?_
      refine ev_gf (v := .ref (v0 + 5)) rfl (so_at hv0) (by decide) rfl ?_
      refine ev_rn (n := 2) (i2 := 28) (L2 := [some (.ref v0), some (.int v1), some (.ref ((v0 + 6) + 1 + ((v1 * (6 : Int32)) + v1).toNatClampNeg))]) (st2 := [.ref ((v0 + 6) + 1 + ((v1 * (6 : Int32)) + v1).toNatClampNeg), .int v1, .ref (v0 + 5)]) (g2 := g) cdE_90 rfl ?_
      refine ev_call rfl cdE_80 (cokV rfl rfl (na_el (so_6 hv0) hi5.2) rfl) rfl rfl (e_Nu_isZero ((v0 + 6) + 1 + ((v1 * (6 : Int32)) + v1).toNatClampNeg) (na_el (so_6 hv0) hi5.2) g rfl) ?_
      by_cases hi22 : inb v1 5
      · rw [if_pos hi22] at h
        refine bd_elim h (fun g6 hg6 h => ?_)
        refine ev_bastore (g2 := g6) rfl (so_5 hv0) (by decide) hi22 (by rw [hg6] <;> rfl) ?_
        refine ev_rn (n := 1) (i2 := 31) (L2 := [some (.ref v0), some (.int v1), some (.ref ((v0 + 6) + 1 + ((v1 * (6 : Int32)) + v1).toNatClampNeg))]) (st2 := [.ref v0]) (g2 := g6) cdE_90 rfl ?_
        refine ev_gf (v := .ref (v0 + 5)) rfl (so_at hv0) (by decide) rfl ?_
        refine ev_rn (n := 1) (i2 := 33) (L2 := [some (.ref v0), some (.int v1), some (.ref ((v0 + 6) + 1 + ((v1 * (6 : Int32)) + v1).toNatClampNeg))]) (st2 := [.int v1, .ref (v0 + 5)]) (g2 := g6) cdE_90 rfl ?_
        by_cases hi7 : inb v1 5
        · rw [if_pos hi7] at h
          refine ev_baload (v := .int (g6.1 (v0 + 5) v1.toNatClampNeg)) rfl (kd_of (so_5 hv0)) (by decide) hi7 rfl ?_
          by_cases hc8 : (g6.1 (v0 + 5) v1.toNatClampNeg) = 0
          · rw [if_pos hc8] at h
            refine ev_zft cdE_90 rfl (cn_t hc8) ?_
            refine ev_rn (n := 4) (i2 := 58) (L2 := [some (.ref v0), some (.int v1), some (.ref ((v0 + 6) + 1 + ((v1 * (6 : Int32)) + v1).toNatClampNeg)), some (.int (v1 + (1 : Int32)))]) (st2 := []) (g2 := g6) cdE_90 rfl ?_
            obtain ⟨e11, he11, h⟩ := Option.bind_eq_some_iff.mp h
            have hX15 : Ev Lx 90 cd_90 68 [some (.ref v0), some (.int v1), some (.ref ((v0 + 6) + 1 + ((v1 * (6 : Int32)) + v1).toNatClampNeg))] [] e11 o := by
              refine ev_rn (n := 2) (i2 := 70) (L2 := [some (.ref v0), some (.int v1), some (.ref ((v0 + 6) + 1 + ((v1 * (6 : Int32)) + v1).toNatClampNeg))]) (st2 := [.ref v0, .ref v0]) (g2 := e11) cdE_90 rfl ?_
              refine ev_gf (v := .int (e11.1 v0 12)) rfl (so_at hv0) (by decide) rfl ?_
              refine ev_rn (n := 2) (i2 := 73) (L2 := [some (.ref v0), some (.int v1), some (.ref ((v0 + 6) + 1 + ((v1 * (6 : Int32)) + v1).toNatClampNeg))]) (st2 := [.int ((e11.1 v0 12) + (1 : Int32)), .ref v0]) (g2 := e11) cdE_90 rfl ?_
              refine bd_elim h (fun g12 hg12 h => ?_)
              refine ev_pf (g2 := g12) rfl (so_at hv0) (by decide) (by rw [hg12] <;> rfl) ?_
              refine ev_rn (n := 2) (i2 := 76) (L2 := [some (.ref v0), some (.int v1), some (.ref ((v0 + 6) + 1 + ((v1 * (6 : Int32)) + v1).toNatClampNeg))]) (st2 := [.ref ((v0 + 6) + 1 + ((v1 * (6 : Int32)) + v1).toNatClampNeg), .ref v0]) (g2 := g12) cdE_90 rfl ?_
              refine ev_call rfl cdE_84 (cokV rfl rfl (na_el (so_6 hv0) hi5.2) rfl) rfl rfl (e_Nu_realX ((v0 + 6) + 1 + ((v1 * (6 : Int32)) + v1).toNatClampNeg) (na_el (so_6 hv0) hi5.2) g12 rfl) ?_
              refine bd_elim h (fun g13 hg13 h => ?_)
              refine ev_pf (g2 := g13) rfl (so_at hv0) (by decide) (by rw [hg13] <;> rfl) ?_
              refine ev_rn (n := 2) (i2 := 80) (L2 := [some (.ref v0), some (.int v1), some (.ref ((v0 + 6) + 1 + ((v1 * (6 : Int32)) + v1).toNatClampNeg))]) (st2 := [.ref ((v0 + 6) + 1 + ((v1 * (6 : Int32)) + v1).toNatClampNeg), .ref v0]) (g2 := g13) cdE_90 rfl ?_
              refine ev_call rfl cdE_85 (cokV rfl rfl (na_el (so_6 hv0) hi5.2) rfl) rfl rfl (e_Nu_realY ((v0 + 6) + 1 + ((v1 * (6 : Int32)) + v1).toNatClampNeg) (na_el (so_6 hv0) hi5.2) g13 rfl) ?_
              refine bd_elim h (fun g14 hg14 h => ?_)
              refine ev_pf (g2 := g14) rfl (so_at hv0) (by decide) (by rw [hg14] <;> rfl) ?_
              refine ev_rn (n := 2) (i2 := 11) (L2 := [some (.ref v0), some (.int (v1 + (1 : Int32))), some (.ref ((v0 + 6) + 1 + ((v1 * (6 : Int32)) + v1).toNatClampNeg))]) (st2 := []) (g2 := g14) cdE_90 rfl ?_
              cases h
              exact ev_wk (L := [some (.ref v0), some (.int (v1 + (1 : Int32)))]) hb ⟨rfl, ⟨rfl, trivial⟩⟩
            exact ev_wk (L := [some (.ref v0), some (.int v1), some (.ref ((v0 + 6) + 1 + ((v1 * (6 : Int32)) + v1).toNatClampNeg)), some (.int (v1 + (1 : Int32)))]) (lp_ind (P := (fun (s : (Int32 × M2)) => Ev Lx 90 cd_90 58 [some (.ref v0), some (.int v1), some (.ref ((v0 + 6) + 1 + ((v1 * (6 : Int32)) + v1).toNatClampNeg)), some (.int s.1)] [] s.2 o)) (fun s s2 hs hP => tb_So_eliminate_58 v0 v1 ((v0 + 6) + 1 + ((v1 * (6 : Int32)) + v1).toNatClampNeg) hv0 (na_el (so_6 hv0) hi5.2) s.1 s.2 (b := .inl s2) hs hP) (fun s hs => tb_So_eliminate_58 v0 v1 ((v0 + 6) + 1 + ((v1 * (6 : Int32)) + v1).toNatClampNeg) hv0 (na_el (so_6 hv0) hi5.2) s.1 s.2 (b := .inr e11) hs hX15) _ _ he11) ⟨rfl, ⟨rfl, ⟨rfl, ⟨rfl, trivial⟩⟩⟩⟩
          · rw [if_neg hc8] at h
            refine ev_zff rfl (cn_f hc8) ?_
            refine ev_rn (n := 2) (i2 := 37) (L2 := [some (.ref v0), some (.int v1), some (.ref ((v0 + 6) + 1 + ((v1 * (6 : Int32)) + v1).toNatClampNeg))]) (st2 := [.ref v0, .ref v0]) (g2 := g6) cdE_90 rfl ?_
            refine ev_gf (v := .int (g6.1 v0 13)) rfl (so_at hv0) (by decide) rfl ?_
            by_cases hc16 : (g6.1 v0 13) = 0
            · rw [if_pos hc16] at h
              refine ev_zft cdE_90 rfl (cn_t hc16) ?_
              refine ev_rn (n := 1) (i2 := 52) (L2 := [some (.ref v0), some (.int v1), some (.ref ((v0 + 6) + 1 + ((v1 * (6 : Int32)) + v1).toNatClampNeg))]) (st2 := [.int (0 : Int32), .ref v0]) (g2 := g6) cdE_90 rfl ?_
              refine bd_elim h (fun g17 hg17 h => ?_)
              refine ev_pf (g2 := g17) rfl (so_at hv0) (by decide) (by rw [hg17] <;> rfl) ?_
              refine ev_rn (n := 3) (i2 := 11) (L2 := [some (.ref v0), some (.int (v1 + (1 : Int32))), some (.ref ((v0 + 6) + 1 + ((v1 * (6 : Int32)) + v1).toNatClampNeg))]) (st2 := []) (g2 := g17) cdE_90 rfl ?_
              cases h
              exact ev_wk (L := [some (.ref v0), some (.int (v1 + (1 : Int32)))]) hb ⟨rfl, ⟨rfl, trivial⟩⟩
            · rw [if_neg hc16] at h
              refine ev_zff rfl (cn_f hc16) ?_
              refine ev_rn (n := 1) (i2 := 40) (L2 := [some (.ref v0), some (.int v1), some (.ref ((v0 + 6) + 1 + ((v1 * (6 : Int32)) + v1).toNatClampNeg))]) (st2 := [.ref v0, .ref v0]) (g2 := g6) cdE_90 rfl ?_
              refine ev_gf (v := .ref (v0 + 6)) rfl (so_at hv0) (by decide) rfl ?_
              refine ev_rn (n := 5) (i2 := 46) (L2 := [some (.ref v0), some (.int v1), some (.ref ((v0 + 6) + 1 + ((v1 * (6 : Int32)) + v1).toNatClampNeg))]) (st2 := [.int ((v1 * (6 : Int32)) + (5 : Int32)), .ref (v0 + 6), .ref v0]) (g2 := g6) cdE_90 rfl ?_
              by_cases hi18 : inb ((v1 * (6 : Int32)) + (5 : Int32)) 30
              · rw [if_pos hi18] at h
                refine ev_aaload (v := .ref ((v0 + 6) + 1 + ((v1 * (6 : Int32)) + (5 : Int32)).toNatClampNeg)) rfl (kd_of (na_at (so_6 hv0))) (by decide) hi18 (na_rf (w := (v0 + 6)) hi18.2) ?_
                refine ev_call rfl cdE_80 (cokV rfl rfl (na_el (so_6 hv0) hi18.2) rfl) rfl rfl (e_Nu_isZero ((v0 + 6) + 1 + ((v1 * (6 : Int32)) + (5 : Int32)).toNatClampNeg) (na_el (so_6 hv0) hi18.2) g6 rfl) ?_
                by_cases hc19 : (f_Nu_isZero ((v0 + 6) + 1 + ((v1 * (6 : Int32)) + (5 : Int32)).toNatClampNeg) g6) = 0
                · rw [if_pos hc19] at h
                  refine ev_zft cdE_90 rfl (cn_t hc19) ?_
                  refine ev_rn (n := 1) (i2 := 52) (L2 := [some (.ref v0), some (.int v1), some (.ref ((v0 + 6) + 1 + ((v1 * (6 : Int32)) + v1).toNatClampNeg))]) (st2 := [.int (0 : Int32), .ref v0]) (g2 := g6) cdE_90 rfl ?_
                  refine bd_elim h (fun g20 hg20 h => ?_)
                  refine ev_pf (g2 := g20) rfl (so_at hv0) (by decide) (by rw [hg20] <;> rfl) ?_
                  refine ev_rn (n := 3) (i2 := 11) (L2 := [some (.ref v0), some (.int (v1 + (1 : Int32))), some (.ref ((v0 + 6) + 1 + ((v1 * (6 : Int32)) + v1).toNatClampNeg))]) (st2 := []) (g2 := g20) cdE_90 rfl ?_
                  cases h
                  exact ev_wk (L := [some (.ref v0), some (.int (v1 + (1 : Int32)))]) hb ⟨rfl, ⟨rfl, trivial⟩⟩
                · rw [if_neg hc19] at h
                  refine ev_zff rfl (cn_f hc19) ?_
                  refine ev_rn (n := 2) (i2 := 52) (L2 := [some (.ref v0), some (.int v1), some (.ref ((v0 + 6) + 1 + ((v1 * (6 : Int32)) + v1).toNatClampNeg))]) (st2 := [.int (1 : Int32), .ref v0]) (g2 := g6) cdE_90 rfl ?_
                  refine bd_elim h (fun g21 hg21 h => ?_)
                  refine ev_pf (g2 := g21) rfl (so_at hv0) (by decide) (by rw [hg21] <;> rfl) ?_
                  refine ev_rn (n := 3) (i2 := 11) (L2 := [some (.ref v0), some (.int (v1 + (1 : Int32))), some (.ref ((v0 + 6) + 1 + ((v1 * (6 : Int32)) + v1).toNatClampNeg))]) (st2 := []) (g2 := g21) cdE_90 rfl ?_
                  cases h
                  exact ev_wk (L := [some (.ref v0), some (.int (v1 + (1 : Int32)))]) hb ⟨rfl, ⟨rfl, trivial⟩⟩
              · rw [if_neg hi18] at h
                cases h
        · rw [if_neg hi7] at h
          cases h
      · rw [if_neg hi22] at h
        cases h
    · rw [if_neg hi5] at h
      cases h
def f_So_eliminate (a0 : Nat) (g : M2) : Option (M2) := (bd (uI g a0 12 (0 : Int32)) fun g1 => (bd (uJ g1 a0 14 (1 : Int64)) fun g2 => (bd (uJ g2 a0 15 (0 : Int64)) fun g3 => ((lp (fun s => b_So_eliminate_11 a0 s.1 s.2) 5000 ((0 : Int32), g3)).bind fun e23 => some e23))))
theorem e_So_eliminate {Lx : Nat} (a0 : Nat) (ha0 : IsSol a0) (g : M2) {b : M2} (h : f_So_eliminate a0 g = some b) : Ev Lx 90 cd_90 0 [some (.ref a0)] [] g (none, b) := by
  unfold f_So_eliminate at h
  refine ev_rn (n := 2) (i2 := 2) (L2 := [some (.ref a0)]) (st2 := [.int (0 : Int32), .ref a0]) (g2 := g) cdE_90 rfl ?_
  refine bd_elim h (fun g1 hg1 h => ?_)
  refine ev_pf (g2 := g1) rfl (so_at ha0) (by decide) (by rw [hg1] <;> rfl) ?_
  refine ev_rn (n := 2) (i2 := 5) (L2 := [some (.ref a0)]) (st2 := [.long (1 : Int64), .ref a0]) (g2 := g1) cdE_90 rfl ?_
  refine bd_elim h (fun g2 hg2 h => ?_)
  refine ev_pf (g2 := g2) rfl (so_at ha0) (by decide) (by rw [hg2] <;> rfl) ?_
  refine ev_rn (n := 2) (i2 := 8) (L2 := [some (.ref a0)]) (st2 := [.long (0 : Int64), .ref a0]) (g2 := g2) cdE_90 rfl ?_
  refine bd_elim h (fun g3 hg3 h => ?_)
  refine ev_pf (g2 := g3) rfl (so_at ha0) (by decide) (by rw [hg3] <;> rfl) ?_
  refine ev_rn (n := 2) (i2 := 11) (L2 := [some (.ref a0), some (.int (0 : Int32))]) (st2 := []) (g2 := g3) cdE_90 rfl ?_
  obtain ⟨e23, he23, h⟩ := Option.bind_eq_some_iff.mp h
  have hX24 : Ev Lx 90 cd_90 84 [] [] e23 (none, b) := by
    cases h
    exact ev_ret rfl rfl
  exact ev_wk (L := [some (.ref a0), some (.int (0 : Int32))]) (lp_ind (P := (fun (s : (Int32 × M2)) => Ev Lx 90 cd_90 11 [some (.ref a0), some (.int s.1)] [] s.2 (none, b))) (fun s s2 hs hP => tb_So_eliminate_11 a0 ha0 s.1 s.2 (b := .inl s2) hs hP) (fun s hs => tb_So_eliminate_11 a0 ha0 s.1 s.2 (b := .inr e23) hs hX24) _ _ he23) ⟨rfl, ⟨rfl, trivial⟩⟩
def f_Nu_copy (a0 : Nat) (p0 : Nat) (g : M2) : Option (M2) := (bd (uJ g a0 0 (g.2 p0 0)) fun g1 => (bd (uJ g1 a0 1 (g1.2 p0 1)) fun g2 => (bd (uJ g2 a0 2 (g2.2 p0 2)) fun g3 => (bd (uJ g3 a0 3 (g3.2 p0 3)) fun g4 => some g4))))
theorem e_Nu_copy {Lx : Nat} (a0 : Nat) (p0 : Nat) (ha0 : IsNum a0) (hp0 : IsNum p0) (g : M2) {b : M2} (h : f_Nu_copy a0 p0 g = some b) : Ev Lx 91 cd_91 0 [some (.ref a0), some (.ref p0)] [] g (none, b) := by
  unfold f_Nu_copy at h
  refine ev_rn (n := 2) (i2 := 2) (L2 := [some (.ref a0), some (.ref p0)]) (st2 := [.ref p0, .ref a0]) (g2 := g) cdE_91 rfl ?_
  refine ev_gf (v := .long (g.2 p0 0)) rfl hp0 (by decide) rfl ?_
  refine bd_elim h (fun g1 hg1 h => ?_)
  refine ev_pf (g2 := g1) rfl ha0 (by decide) (by rw [hg1] <;> rfl) ?_
  refine ev_rn (n := 2) (i2 := 6) (L2 := [some (.ref a0), some (.ref p0)]) (st2 := [.ref p0, .ref a0]) (g2 := g1) cdE_91 rfl ?_
  refine ev_gf (v := .long (g1.2 p0 1)) rfl hp0 (by decide) rfl ?_
  refine bd_elim h (fun g2 hg2 h => ?_)
  refine ev_pf (g2 := g2) rfl ha0 (by decide) (by rw [hg2] <;> rfl) ?_
  refine ev_rn (n := 2) (i2 := 10) (L2 := [some (.ref a0), some (.ref p0)]) (st2 := [.ref p0, .ref a0]) (g2 := g2) cdE_91 rfl ?_
  refine ev_gf (v := .long (g2.2 p0 2)) rfl hp0 (by decide) rfl ?_
  refine bd_elim h (fun g3 hg3 h => ?_)
  refine ev_pf (g2 := g3) rfl ha0 (by decide) (by rw [hg3] <;> rfl) ?_
  refine ev_rn (n := 2) (i2 := 14) (L2 := [some (.ref a0), some (.ref p0)]) (st2 := [.ref p0, .ref a0]) (g2 := g3) cdE_91 rfl ?_
  refine ev_gf (v := .long (g3.2 p0 3)) rfl hp0 (by decide) rfl ?_
  refine bd_elim h (fun g4 hg4 h => ?_)
  refine ev_pf (g2 := g4) rfl ha0 (by decide) (by rw [hg4] <;> rfl) ?_
  cases h
  exact ev_ret rfl rfl
def b_So_substitute_39 (v0 : Nat) (v1 : Int32) (v2 : Nat) (v3 : Int32) (g : M2) : Option ((Int32 × M2) ⊕ M2) := (if (g.1 v0 11) ≤ v3 then some (.inr g) else (if inb ((v1 * (6 : Int32)) + v3) 30 then (if inb v3 5 then ((f_Nu_multiply (v0 + 65) ((v0 + 6) + 1 + ((v1 * (6 : Int32)) + v3).toNatClampNeg) ((v0 + 37) + 1 + v3.toNatClampNeg) g).bind fun q12 => ((f_Nu_takeAway v2 (v0 + 65) q12).bind fun q13 => some (.inl ((v3 + (1 : Int32)), q13)))) else none) else none))
theorem tb_So_substitute_39 {Lx : Nat} (v0 : Nat) (v1 : Int32) (v2 : Nat) (hv0 : IsSol v0) (hv2 : IsNum v2) (v3 : Int32) (g : M2) {b : (Int32 × M2) ⊕ M2} {o : Option Value × M2} (h : b_So_substitute_39 v0 v1 v2 v3 g = some b) (hb : Sum.elim (fun s => Ev Lx 92 cd_92 39 [some (.ref v0), some (.int v1), some (.ref v2), some (.int s.1)] [] s.2 o) (fun e => Ev Lx 92 cd_92 64 [some (.ref v0), some (.int v1), some (.ref v2)] [] e o) b) : Ev Lx 92 cd_92 39 [some (.ref v0), some (.int v1), some (.ref v2), some (.int v3)] [] g o := by
  unfold b_So_substitute_39 at h
  refine ev_rn (n := 2) (i2 := 41) (L2 := [some (.ref v0), some (.int v1), some (.ref v2), some (.int v3)]) (st2 := [.ref v0, .int v3]) (g2 := g) cdE_92 rfl ?_
  refine ev_gf (v := .int (g.1 v0 11)) rfl (so_at hv0) (by decide) rfl ?_
  by_cases hc9 : (g.1 v0 11) ≤ v3
  · rw [if_pos hc9] at h
    refine ev_ift cdE_92 rfl (cn_t hc9) ?_
    cases h
    exact ev_wk (L := [some (.ref v0), some (.int v1), some (.ref v2)]) hb ⟨rfl, ⟨rfl, ⟨rfl, trivial⟩⟩⟩
  · rw [if_neg hc9] at h
    refine ev_iff rfl (cn_f hc9) ?_
    refine ev_rn (n := 1) (i2 := 44) (L2 := [some (.ref v0), some (.int v1), some (.ref v2), some (.int v3)]) (st2 := [.ref v0]) (g2 := g) cdE_92 rfl ?_
    refine ev_gf (v := .ref (v0 + 65)) rfl (so_at hv0) (by decide) rfl ?_
    refine ev_rn (n := 1) (i2 := 46) (L2 := [some (.ref v0), some (.int v1), some (.ref v2), some (.int v3)]) (st2 := [.ref v0, .ref (v0 + 65)]) (g2 := g) cdE_92 rfl ?_
    refine ev_gf (v := .ref (v0 + 6)) rfl (so_at hv0) (by decide) rfl ?_
    refine ev_rn (n := 5) (i2 := 52) (L2 := [some (.ref v0), some (.int v1), some (.ref v2), some (.int v3)]) (st2 := [.int ((v1 * (6 : Int32)) + v3), .ref (v0 + 6), .ref (v0 + 65)]) (g2 := g) cdE_92 rfl ?_
    by_cases hi10 : inb ((v1 * (6 : Int32)) + v3) 30
    · rw [if_pos hi10] at h
      refine ev_aaload (v := .ref ((v0 + 6) + 1 + ((v1 * (6 : Int32)) + v3).toNatClampNeg)) rfl (kd_of (na_at (so_6 hv0))) (by decide) hi10 (na_rf (w := (v0 + 6)) hi10.2) ?_
      refine ev_rn (n := 1) (i2 := 54) (L2 := [some (.ref v0), some (.int v1), some (.ref v2), some (.int v3)]) (st2 := [.ref v0, .ref ((v0 + 6) + 1 + ((v1 * (6 : Int32)) + v3).toNatClampNeg), .ref (v0 + 65)]) (g2 := g) cdE_92 rfl ?_
      refine ev_gf (v := .ref (v0 + 37)) rfl (so_at hv0) (by decide) rfl ?_
      refine ev_rn (n := 1) (i2 := 56) (L2 := [some (.ref v0), some (.int v1), some (.ref v2), some (.int v3)]) (st2 := [.int v3, .ref (v0 + 37), .ref ((v0 + 6) + 1 + ((v1 * (6 : Int32)) + v3).toNatClampNeg), .ref (v0 + 65)]) (g2 := g) cdE_92 rfl ?_
      by_cases hi11 : inb v3 5
      · rw [if_pos hi11] at h
        refine ev_aaload (v := .ref ((v0 + 37) + 1 + v3.toNatClampNeg)) rfl (kd_of (na_at (so_37 hv0))) (by decide) hi11 (na_rf (w := (v0 + 37)) hi11.2) ?_
        obtain ⟨q12, hq12, h⟩ := Option.bind_eq_some_iff.mp h
        refine ev_call rfl cdE_83 (cokV rfl rfl (so_65 hv0) rfl) rfl rfl (e_Nu_multiply (v0 + 65) ((v0 + 6) + 1 + ((v1 * (6 : Int32)) + v3).toNatClampNeg) ((v0 + 37) + 1 + v3.toNatClampNeg) (so_65 hv0) (na_el (so_6 hv0) hi10.2) (na_el (so_37 hv0) hi11.2) g hq12) ?_
        refine ev_rn (n := 2) (i2 := 60) (L2 := [some (.ref v0), some (.int v1), some (.ref v2), some (.int v3)]) (st2 := [.ref v0, .ref v2]) (g2 := q12) cdE_92 rfl ?_
        refine ev_gf (v := .ref (v0 + 65)) rfl (so_at hv0) (by decide) rfl ?_
        obtain ⟨q13, hq13, h⟩ := Option.bind_eq_some_iff.mp h
        refine ev_call rfl cdE_87 (cokV rfl rfl hv2 rfl) rfl rfl (e_Nu_takeAway v2 (v0 + 65) hv2 (so_65 hv0) q12 hq13) ?_
        refine ev_rn (n := 2) (i2 := 39) (L2 := [some (.ref v0), some (.int v1), some (.ref v2), some (.int (v3 + (1 : Int32)))]) (st2 := []) (g2 := q13) cdE_92 rfl ?_
        cases h
        exact ev_wk (L := [some (.ref v0), some (.int v1), some (.ref v2), some (.int (v3 + (1 : Int32)))]) hb ⟨rfl, ⟨rfl, ⟨rfl, ⟨rfl, trivial⟩⟩⟩⟩
      · rw [if_neg hi11] at h
        cases h
    · rw [if_neg hi10] at h
      cases h
def b_So_substitute_5 (v0 : Nat) (v1 : Int32) (g : M2) : Option ((Int32 × M2) ⊕ M2) := (if v1 < 0 then some (.inr g) else (if inb v1 5 then ((f_Nu_clear ((v0 + 37) + 1 + v1.toNatClampNeg) g).bind fun q3 => (if inb v1 5 then (if (q3.1 (v0 + 5) v1.toNatClampNeg) = 0 then (if inb ((v1 * (6 : Int32)) + (5 : Int32)) 30 then ((f_Nu_copy ((v0 + 37) + 1 + v1.toNatClampNeg) ((v0 + 6) + 1 + ((v1 * (6 : Int32)) + (5 : Int32)).toNatClampNeg) q3).bind fun q7 => ((f_Nu_timesReal ((v0 + 37) + 1 + v1.toNatClampNeg) (q7.2 v0 14) (q7.2 v0 15) q7).bind fun q8 => ((lp (fun s => b_So_substitute_39 v0 v1 ((v0 + 37) + 1 + v1.toNatClampNeg) s.1 s.2) 5000 ((v1 + (1 : Int32)), q8)).bind fun e14 => (if inb ((v1 * (6 : Int32)) + v1) 30 then ((f_Nu_timesReal ((v0 + 37) + 1 + v1.toNatClampNeg) (f_Nu_realX ((v0 + 6) + 1 + ((v1 * (6 : Int32)) + v1).toNatClampNeg) e14) (-(f_Nu_realY ((v0 + 6) + 1 + ((v1 * (6 : Int32)) + v1).toNatClampNeg) e14)) e14).bind fun q16 => ((f_Nu_divide ((v0 + 37) + 1 + v1.toNatClampNeg) (f_So_normOf (f_Nu_realX ((v0 + 6) + 1 + ((v1 * (6 : Int32)) + v1).toNatClampNeg) q16) (f_Nu_realY ((v0 + 6) + 1 + ((v1 * (6 : Int32)) + v1).toNatClampNeg) q16) q16) q16).bind fun q17 => some (.inl ((v1 + (-1 : Int32)), q17)))) else none)))) else none) else some (.inl ((v1 + (-1 : Int32)), q3))) else none)) else none))
theorem tb_So_substitute_5 {Lx : Nat} (v0 : Nat) (hv0 : IsSol v0) (v1 : Int32) (g : M2) {b : (Int32 × M2) ⊕ M2} {o : Option Value × M2} (h : b_So_substitute_5 v0 v1 g = some b) (hb : Sum.elim (fun s => Ev Lx 92 cd_92 5 [some (.ref v0), some (.int s.1)] [] s.2 o) (fun e => Ev Lx 92 cd_92 89 [some (.ref v0)] [] e o) b) : Ev Lx 92 cd_92 5 [some (.ref v0), some (.int v1)] [] g o := by
  unfold b_So_substitute_5 at h
  refine ev_rn (n := 1) (i2 := 6) (L2 := [some (.ref v0), some (.int v1)]) (st2 := [.int v1]) (g2 := g) cdE_92 rfl ?_
  by_cases hc1 : v1 < 0
  · rw [if_pos hc1] at h
    refine ev_zft cdE_92 rfl (cn_t hc1) ?_
    cases h
    exact ev_wk (L := [some (.ref v0)]) hb ⟨rfl, trivial⟩
  · rw [if_neg hc1] at h
    refine ev_zff rfl (cn_f hc1) ?_
    refine ev_rn (n := 1) (i2 := 8) (L2 := [some (.ref v0), some (.int v1)]) (st2 := [.ref v0]) (g2 := g) cdE_92 rfl ?_
    refine ev_gf (v := .ref (v0 + 37)) rfl (so_at hv0) (by decide) rfl ?_
    refine ev_rn (n := 1) (i2 := 10) (L2 := [some (.ref v0), some (.int v1)]) (st2 := [.int v1, .ref (v0 + 37)]) (g2 := g) cdE_92 rfl ?_
    by_cases hi2 : inb v1 5
    · rw [if_pos hi2] at h
      refine ev_aaload (v := .ref ((v0 + 37) + 1 + v1.toNatClampNeg)) rfl (kd_of (na_at (so_37 hv0))) (by decide) hi2 (na_rf (w := (v0 + 37)) hi2.2) ?_
      refine ev_rn (n := 2) (i2 := 13) (L2 := [some (.ref v0), some (.int v1), some (.ref ((v0 + 37) + 1 + v1.toNatClampNeg))]) (st2 := [.ref ((v0 + 37) + 1 + v1.toNatClampNeg)]) (g2 := g) cdE_92 rfl ?_
      obtain ⟨q3, hq3, h⟩ := Option.bind_eq_some_iff.mp h
      refine ev_call rfl cdE_76 (cokV rfl rfl (na_el (so_37 hv0) hi2.2) rfl) rfl rfl (e_Nu_clear ((v0 + 37) + 1 + v1.toNatClampNeg) (na_el (so_37 hv0) hi2.2) g hq3) ?_
      refine ev_rn (n := 1) (i2 := 15) (L2 := [some (.ref v0), some (.int v1), some (.ref ((v0 + 37) + 1 + v1.toNatClampNeg))]) (st2 := [.ref v0]) (g2 := q3) cdE_92 rfl ?_
      refine ev_gf (v := .ref (v0 + 5)) rfl (so_at hv0) (by decide) rfl ?_
      refine ev_rn (n := 1) (i2 := 17) (L2 := [some (.ref v0), some (.int v1), some (.ref ((v0 + 37) + 1 + v1.toNatClampNeg))]) (st2 := [.int v1, .ref (v0 + 5)]) (g2 := q3) cdE_92 rfl ?_
      by_cases hi4 : inb v1 5
      · rw [if_pos hi4] at h
        refine ev_baload (v := .int (q3.1 (v0 + 5) v1.toNatClampNeg)) rfl (kd_of (so_5 hv0)) (by decide) hi4 rfl ?_
        by_cases hc5 : (q3.1 (v0 + 5) v1.toNatClampNeg) = 0
        · rw [if_pos hc5] at h
          refine ev_zff rfl (cn_f (fun q => q hc5)) ?_
          refine ev_rn (n := 2) (i2 := 21) (L2 := [some (.ref v0), some (.int v1), some (.ref ((v0 + 37) + 1 + v1.toNatClampNeg))]) (st2 := [.ref v0, .ref ((v0 + 37) + 1 + v1.toNatClampNeg)]) (g2 := q3) cdE_92 rfl ?_
          refine ev_gf (v := .ref (v0 + 6)) rfl (so_at hv0) (by decide) rfl ?_
          refine ev_rn (n := 5) (i2 := 27) (L2 := [some (.ref v0), some (.int v1), some (.ref ((v0 + 37) + 1 + v1.toNatClampNeg))]) (st2 := [.int ((v1 * (6 : Int32)) + (5 : Int32)), .ref (v0 + 6), .ref ((v0 + 37) + 1 + v1.toNatClampNeg)]) (g2 := q3) cdE_92 rfl ?_
          by_cases hi6 : inb ((v1 * (6 : Int32)) + (5 : Int32)) 30
          · rw [if_pos hi6] at h
            refine ev_aaload (v := .ref ((v0 + 6) + 1 + ((v1 * (6 : Int32)) + (5 : Int32)).toNatClampNeg)) rfl (kd_of (na_at (so_6 hv0))) (by decide) hi6 (na_rf (w := (v0 + 6)) hi6.2) ?_
            obtain ⟨q7, hq7, h⟩ := Option.bind_eq_some_iff.mp h
            refine ev_call rfl cdE_91 (cokV rfl rfl (na_el (so_37 hv0) hi2.2) rfl) rfl rfl (e_Nu_copy ((v0 + 37) + 1 + v1.toNatClampNeg) ((v0 + 6) + 1 + ((v1 * (6 : Int32)) + (5 : Int32)).toNatClampNeg) (na_el (so_37 hv0) hi2.2) (na_el (so_6 hv0) hi6.2) q3 hq7) ?_
            refine ev_rn (n := 2) (i2 := 31) (L2 := [some (.ref v0), some (.int v1), some (.ref ((v0 + 37) + 1 + v1.toNatClampNeg))]) (st2 := [.ref v0, .ref ((v0 + 37) + 1 + v1.toNatClampNeg)]) (g2 := q7) cdE_92 rfl ?_
            refine ev_gf (v := .long (q7.2 v0 14)) rfl (so_at hv0) (by decide) rfl ?_
            refine ev_rn (n := 1) (i2 := 33) (L2 := [some (.ref v0), some (.int v1), some (.ref ((v0 + 37) + 1 + v1.toNatClampNeg))]) (st2 := [.ref v0, .long (q7.2 v0 14), .ref ((v0 + 37) + 1 + v1.toNatClampNeg)]) (g2 := q7) cdE_92 rfl ?_
            refine ev_gf (v := .long (q7.2 v0 15)) rfl (so_at hv0) (by decide) rfl ?_
            obtain ⟨q8, hq8, h⟩ := Option.bind_eq_some_iff.mp h
            refine ev_call rfl cdE_86 (cokV rfl rfl (na_el (so_37 hv0) hi2.2) rfl) rfl rfl (e_Nu_timesReal ((v0 + 37) + 1 + v1.toNatClampNeg) (q7.2 v0 14) (q7.2 v0 15) (na_el (so_37 hv0) hi2.2) q7 hq8) ?_
            refine ev_rn (n := 4) (i2 := 39) (L2 := [some (.ref v0), some (.int v1), some (.ref ((v0 + 37) + 1 + v1.toNatClampNeg)), some (.int (v1 + (1 : Int32)))]) (st2 := []) (g2 := q8) cdE_92 rfl ?_
            obtain ⟨e14, he14, h⟩ := Option.bind_eq_some_iff.mp h
            have hX18 : Ev Lx 92 cd_92 64 [some (.ref v0), some (.int v1), some (.ref ((v0 + 37) + 1 + v1.toNatClampNeg))] [] e14 o := by
              refine ev_rn (n := 1) (i2 := 65) (L2 := [some (.ref v0), some (.int v1), some (.ref ((v0 + 37) + 1 + v1.toNatClampNeg))]) (st2 := [.ref v0]) (g2 := e14) cdE_92 rfl ?_
              refine ev_gf (v := .ref (v0 + 6)) rfl (so_at hv0) (by decide) rfl ?_
              refine ev_rn (n := 5) (i2 := 71) (L2 := [some (.ref v0), some (.int v1), some (.ref ((v0 + 37) + 1 + v1.toNatClampNeg))]) (st2 := [.int ((v1 * (6 : Int32)) + v1), .ref (v0 + 6)]) (g2 := e14) cdE_92 rfl ?_
              by_cases hi15 : inb ((v1 * (6 : Int32)) + v1) 30
              · rw [if_pos hi15] at h
                refine ev_aaload (v := .ref ((v0 + 6) + 1 + ((v1 * (6 : Int32)) + v1).toNatClampNeg)) rfl (kd_of (na_at (so_6 hv0))) (by decide) hi15 (na_rf (w := (v0 + 6)) hi15.2) ?_
                refine ev_rn (n := 3) (i2 := 75) (L2 := [some (.ref v0), some (.int v1), some (.ref ((v0 + 37) + 1 + v1.toNatClampNeg)), some (.ref ((v0 + 6) + 1 + ((v1 * (6 : Int32)) + v1).toNatClampNeg))]) (st2 := [.ref ((v0 + 6) + 1 + ((v1 * (6 : Int32)) + v1).toNatClampNeg), .ref ((v0 + 37) + 1 + v1.toNatClampNeg)]) (g2 := e14) cdE_92 rfl ?_
                refine ev_call rfl cdE_84 (cokV rfl rfl (na_el (so_6 hv0) hi15.2) rfl) rfl rfl (e_Nu_realX ((v0 + 6) + 1 + ((v1 * (6 : Int32)) + v1).toNatClampNeg) (na_el (so_6 hv0) hi15.2) e14 rfl) ?_
                refine ev_rn (n := 1) (i2 := 77) (L2 := [some (.ref v0), some (.int v1), some (.ref ((v0 + 37) + 1 + v1.toNatClampNeg)), some (.ref ((v0 + 6) + 1 + ((v1 * (6 : Int32)) + v1).toNatClampNeg))]) (st2 := [.ref ((v0 + 6) + 1 + ((v1 * (6 : Int32)) + v1).toNatClampNeg), .long (f_Nu_realX ((v0 + 6) + 1 + ((v1 * (6 : Int32)) + v1).toNatClampNeg) e14), .ref ((v0 + 37) + 1 + v1.toNatClampNeg)]) (g2 := e14) cdE_92 rfl ?_
                refine ev_call rfl cdE_85 (cokV rfl rfl (na_el (so_6 hv0) hi15.2) rfl) rfl rfl (e_Nu_realY ((v0 + 6) + 1 + ((v1 * (6 : Int32)) + v1).toNatClampNeg) (na_el (so_6 hv0) hi15.2) e14 rfl) ?_
                refine ev_rn (n := 1) (i2 := 79) (L2 := [some (.ref v0), some (.int v1), some (.ref ((v0 + 37) + 1 + v1.toNatClampNeg)), some (.ref ((v0 + 6) + 1 + ((v1 * (6 : Int32)) + v1).toNatClampNeg))]) (st2 := [.long (-(f_Nu_realY ((v0 + 6) + 1 + ((v1 * (6 : Int32)) + v1).toNatClampNeg) e14)), .long (f_Nu_realX ((v0 + 6) + 1 + ((v1 * (6 : Int32)) + v1).toNatClampNeg) e14), .ref ((v0 + 37) + 1 + v1.toNatClampNeg)]) (g2 := e14) cdE_92 rfl ?_
                obtain ⟨q16, hq16, h⟩ := Option.bind_eq_some_iff.mp h
                refine ev_call rfl cdE_86 (cokV rfl rfl (na_el (so_37 hv0) hi2.2) rfl) rfl rfl (e_Nu_timesReal ((v0 + 37) + 1 + v1.toNatClampNeg) (f_Nu_realX ((v0 + 6) + 1 + ((v1 * (6 : Int32)) + v1).toNatClampNeg) e14) (-(f_Nu_realY ((v0 + 6) + 1 + ((v1 * (6 : Int32)) + v1).toNatClampNeg) e14)) (na_el (so_37 hv0) hi2.2) e14 hq16) ?_
                refine ev_rn (n := 2) (i2 := 82) (L2 := [some (.ref v0), some (.int v1), some (.ref ((v0 + 37) + 1 + v1.toNatClampNeg)), some (.ref ((v0 + 6) + 1 + ((v1 * (6 : Int32)) + v1).toNatClampNeg))]) (st2 := [.ref ((v0 + 6) + 1 + ((v1 * (6 : Int32)) + v1).toNatClampNeg), .ref ((v0 + 37) + 1 + v1.toNatClampNeg)]) (g2 := q16) cdE_92 rfl ?_
                refine ev_call rfl cdE_84 (cokV rfl rfl (na_el (so_6 hv0) hi15.2) rfl) rfl rfl (e_Nu_realX ((v0 + 6) + 1 + ((v1 * (6 : Int32)) + v1).toNatClampNeg) (na_el (so_6 hv0) hi15.2) q16 rfl) ?_
                refine ev_rn (n := 1) (i2 := 84) (L2 := [some (.ref v0), some (.int v1), some (.ref ((v0 + 37) + 1 + v1.toNatClampNeg)), some (.ref ((v0 + 6) + 1 + ((v1 * (6 : Int32)) + v1).toNatClampNeg))]) (st2 := [.ref ((v0 + 6) + 1 + ((v1 * (6 : Int32)) + v1).toNatClampNeg), .long (f_Nu_realX ((v0 + 6) + 1 + ((v1 * (6 : Int32)) + v1).toNatClampNeg) q16), .ref ((v0 + 37) + 1 + v1.toNatClampNeg)]) (g2 := q16) cdE_92 rfl ?_
                refine ev_call rfl cdE_85 (cokV rfl rfl (na_el (so_6 hv0) hi15.2) rfl) rfl rfl (e_Nu_realY ((v0 + 6) + 1 + ((v1 * (6 : Int32)) + v1).toNatClampNeg) (na_el (so_6 hv0) hi15.2) q16 rfl) ?_
                refine ev_call rfl cdE_81 rfl rfl rfl (e_So_normOf (f_Nu_realX ((v0 + 6) + 1 + ((v1 * (6 : Int32)) + v1).toNatClampNeg) q16) (f_Nu_realY ((v0 + 6) + 1 + ((v1 * (6 : Int32)) + v1).toNatClampNeg) q16)  q16 rfl) ?_
                obtain ⟨q17, hq17, h⟩ := Option.bind_eq_some_iff.mp h
                refine ev_call rfl cdE_88 (cokV rfl rfl (na_el (so_37 hv0) hi2.2) rfl) rfl rfl (e_Nu_divide ((v0 + 37) + 1 + v1.toNatClampNeg) (f_So_normOf (f_Nu_realX ((v0 + 6) + 1 + ((v1 * (6 : Int32)) + v1).toNatClampNeg) q16) (f_Nu_realY ((v0 + 6) + 1 + ((v1 * (6 : Int32)) + v1).toNatClampNeg) q16) q16) (na_el (so_37 hv0) hi2.2) q16 hq17) ?_
                refine ev_rn (n := 2) (i2 := 5) (L2 := [some (.ref v0), some (.int (v1 + (-1 : Int32))), some (.ref ((v0 + 37) + 1 + v1.toNatClampNeg)), some (.ref ((v0 + 6) + 1 + ((v1 * (6 : Int32)) + v1).toNatClampNeg))]) (st2 := []) (g2 := q17) cdE_92 rfl ?_
                cases h
                exact ev_wk (L := [some (.ref v0), some (.int (v1 + (-1 : Int32)))]) hb ⟨rfl, ⟨rfl, trivial⟩⟩
              · rw [if_neg hi15] at h
                cases h
            exact ev_wk (L := [some (.ref v0), some (.int v1), some (.ref ((v0 + 37) + 1 + v1.toNatClampNeg)), some (.int (v1 + (1 : Int32)))]) (lp_ind (P := (fun (s : (Int32 × M2)) => Ev Lx 92 cd_92 39 [some (.ref v0), some (.int v1), some (.ref ((v0 + 37) + 1 + v1.toNatClampNeg)), some (.int s.1)] [] s.2 o)) (fun s s2 hs hP => tb_So_substitute_39 v0 v1 ((v0 + 37) + 1 + v1.toNatClampNeg) hv0 (na_el (so_37 hv0) hi2.2) s.1 s.2 (b := .inl s2) hs hP) (fun s hs => tb_So_substitute_39 v0 v1 ((v0 + 37) + 1 + v1.toNatClampNeg) hv0 (na_el (so_37 hv0) hi2.2) s.1 s.2 (b := .inr e14) hs hX18) _ _ he14) ⟨rfl, ⟨rfl, ⟨rfl, ⟨rfl, trivial⟩⟩⟩⟩
          · rw [if_neg hi6] at h
            cases h
        · rw [if_neg hc5] at h
          refine ev_zft cdE_92 rfl (cn_t hc5) ?_
          refine ev_rn (n := 2) (i2 := 5) (L2 := [some (.ref v0), some (.int (v1 + (-1 : Int32))), some (.ref ((v0 + 37) + 1 + v1.toNatClampNeg))]) (st2 := []) (g2 := q3) cdE_92 rfl ?_
          cases h
          exact ev_wk (L := [some (.ref v0), some (.int (v1 + (-1 : Int32)))]) hb ⟨rfl, ⟨rfl, trivial⟩⟩
      · rw [if_neg hi4] at h
        cases h
    · rw [if_neg hi2] at h
      cases h
def b_So_substitute_91 (v0 : Nat) (v1 : Int32) (g : M2) : Option ((Int32 × M2) ⊕ M2) := (if (g.1 v0 11) ≤ v1 then some (.inr g) else (if inb v1 5 then ((f_Nu_timesReal ((v0 + 37) + 1 + v1.toNatClampNeg) (g.2 v0 14) (-(g.2 v0 15)) g).bind fun q22 => some (.inl ((v1 + (1 : Int32)), q22))) else none))
theorem tb_So_substitute_91 {Lx : Nat} (v0 : Nat) (hv0 : IsSol v0) (v1 : Int32) (g : M2) {b : (Int32 × M2) ⊕ M2} {o : Option Value × M2} (h : b_So_substitute_91 v0 v1 g = some b) (hb : Sum.elim (fun s => Ev Lx 92 cd_92 91 [some (.ref v0), some (.int s.1)] [] s.2 o) (fun e => Ev Lx 92 cd_92 107 [some (.ref v0)] [] e o) b) : Ev Lx 92 cd_92 91 [some (.ref v0), some (.int v1)] [] g o := by
  unfold b_So_substitute_91 at h
  refine ev_rn (n := 2) (i2 := 93) (L2 := [some (.ref v0), some (.int v1)]) (st2 := [.ref v0, .int v1]) (g2 := g) cdE_92 rfl ?_
  refine ev_gf (v := .int (g.1 v0 11)) rfl (so_at hv0) (by decide) rfl ?_
  by_cases hc20 : (g.1 v0 11) ≤ v1
  · rw [if_pos hc20] at h
    refine ev_ift cdE_92 rfl (cn_t hc20) ?_
    cases h
    exact ev_wk (L := [some (.ref v0)]) hb ⟨rfl, trivial⟩
  · rw [if_neg hc20] at h
    refine ev_iff rfl (cn_f hc20) ?_
    refine ev_rn (n := 1) (i2 := 96) (L2 := [some (.ref v0), some (.int v1)]) (st2 := [.ref v0]) (g2 := g) cdE_92 rfl ?_
    refine ev_gf (v := .ref (v0 + 37)) rfl (so_at hv0) (by decide) rfl ?_
    refine ev_rn (n := 1) (i2 := 98) (L2 := [some (.ref v0), some (.int v1)]) (st2 := [.int v1, .ref (v0 + 37)]) (g2 := g) cdE_92 rfl ?_
    by_cases hi21 : inb v1 5
    · rw [if_pos hi21] at h
      refine ev_aaload (v := .ref ((v0 + 37) + 1 + v1.toNatClampNeg)) rfl (kd_of (na_at (so_37 hv0))) (by decide) hi21 (na_rf (w := (v0 + 37)) hi21.2) ?_
      refine ev_rn (n := 1) (i2 := 100) (L2 := [some (.ref v0), some (.int v1)]) (st2 := [.ref v0, .ref ((v0 + 37) + 1 + v1.toNatClampNeg)]) (g2 := g) cdE_92 rfl ?_
      refine ev_gf (v := .long (g.2 v0 14)) rfl (so_at hv0) (by decide) rfl ?_
      refine ev_rn (n := 1) (i2 := 102) (L2 := [some (.ref v0), some (.int v1)]) (st2 := [.ref v0, .long (g.2 v0 14), .ref ((v0 + 37) + 1 + v1.toNatClampNeg)]) (g2 := g) cdE_92 rfl ?_
      refine ev_gf (v := .long (g.2 v0 15)) rfl (so_at hv0) (by decide) rfl ?_
      refine ev_rn (n := 1) (i2 := 104) (L2 := [some (.ref v0), some (.int v1)]) (st2 := [.long (-(g.2 v0 15)), .long (g.2 v0 14), .ref ((v0 + 37) + 1 + v1.toNatClampNeg)]) (g2 := g) cdE_92 rfl ?_
      obtain ⟨q22, hq22, h⟩ := Option.bind_eq_some_iff.mp h
      refine ev_call rfl cdE_86 (cokV rfl rfl (na_el (so_37 hv0) hi21.2) rfl) rfl rfl (e_Nu_timesReal ((v0 + 37) + 1 + v1.toNatClampNeg) (g.2 v0 14) (-(g.2 v0 15)) (na_el (so_37 hv0) hi21.2) g hq22) ?_
      refine ev_rn (n := 2) (i2 := 91) (L2 := [some (.ref v0), some (.int (v1 + (1 : Int32)))]) (st2 := []) (g2 := q22) cdE_92 rfl ?_
      cases h
      exact ev_wk (L := [some (.ref v0), some (.int (v1 + (1 : Int32)))]) hb ⟨rfl, ⟨rfl, trivial⟩⟩
    · rw [if_neg hi21] at h
      cases h
def f_So_substitute (a0 : Nat) (g : M2) : Option (M2) := ((lp (fun s => b_So_substitute_5 a0 s.1 s.2) 5000 (((g.1 a0 11) - (1 : Int32)), g)).bind fun e19 => ((lp (fun s => b_So_substitute_91 a0 s.1 s.2) 5000 ((0 : Int32), e19)).bind fun e23 => (bd (uJ e23 a0 16 (f_So_normOf (e23.2 a0 14) (e23.2 a0 15) e23)) fun g24 => some g24)))
theorem e_So_substitute {Lx : Nat} (a0 : Nat) (ha0 : IsSol a0) (g : M2) {b : M2} (h : f_So_substitute a0 g = some b) : Ev Lx 92 cd_92 0 [some (.ref a0)] [] g (none, b) := by
  unfold f_So_substitute at h
  refine ev_rn (n := 1) (i2 := 1) (L2 := [some (.ref a0)]) (st2 := [.ref a0]) (g2 := g) cdE_92 rfl ?_
  refine ev_gf (v := .int (g.1 a0 11)) rfl (so_at ha0) (by decide) rfl ?_
  refine ev_rn (n := 3) (i2 := 5) (L2 := [some (.ref a0), some (.int ((g.1 a0 11) - (1 : Int32)))]) (st2 := []) (g2 := g) cdE_92 rfl ?_
  obtain ⟨e19, he19, h⟩ := Option.bind_eq_some_iff.mp h
  have hX26 : Ev Lx 92 cd_92 89 [some (.ref a0)] [] e19 (none, b) := by
    refine ev_rn (n := 2) (i2 := 91) (L2 := [some (.ref a0), some (.int (0 : Int32))]) (st2 := []) (g2 := e19) cdE_92 rfl ?_
    obtain ⟨e23, he23, h⟩ := Option.bind_eq_some_iff.mp h
    have hX25 : Ev Lx 92 cd_92 107 [some (.ref a0)] [] e23 (none, b) := by
      refine ev_rn (n := 2) (i2 := 109) (L2 := [some (.ref a0)]) (st2 := [.ref a0, .ref a0]) (g2 := e23) cdE_92 rfl ?_
      refine ev_gf (v := .long (e23.2 a0 14)) rfl (so_at ha0) (by decide) rfl ?_
      refine ev_rn (n := 1) (i2 := 111) (L2 := [some (.ref a0)]) (st2 := [.ref a0, .long (e23.2 a0 14), .ref a0]) (g2 := e23) cdE_92 rfl ?_
      refine ev_gf (v := .long (e23.2 a0 15)) rfl (so_at ha0) (by decide) rfl ?_
      refine ev_call rfl cdE_81 rfl rfl rfl (e_So_normOf (e23.2 a0 14) (e23.2 a0 15)  e23 rfl) ?_
      refine bd_elim h (fun g24 hg24 h => ?_)
      refine ev_pf (g2 := g24) rfl (so_at ha0) (by decide) (by rw [hg24] <;> rfl) ?_
      cases h
      exact ev_ret rfl rfl
    exact ev_wk (L := [some (.ref a0), some (.int (0 : Int32))]) (lp_ind (P := (fun (s : (Int32 × M2)) => Ev Lx 92 cd_92 91 [some (.ref a0), some (.int s.1)] [] s.2 (none, b))) (fun s s2 hs hP => tb_So_substitute_91 a0 ha0 s.1 s.2 (b := .inl s2) hs hP) (fun s hs => tb_So_substitute_91 a0 ha0 s.1 s.2 (b := .inr e23) hs hX25) _ _ he23) ⟨rfl, ⟨rfl, trivial⟩⟩
  exact ev_wk (L := [some (.ref a0), some (.int ((g.1 a0 11) - (1 : Int32)))]) (lp_ind (P := (fun (s : (Int32 × M2)) => Ev Lx 92 cd_92 5 [some (.ref a0), some (.int s.1)] [] s.2 (none, b))) (fun s s2 hs hP => tb_So_substitute_5 a0 ha0 s.1 s.2 (b := .inl s2) hs hP) (fun s hs => tb_So_substitute_5 a0 ha0 s.1 s.2 (b := .inr e19) hs hX26) _ _ he19) ⟨rfl, ⟨rfl, trivial⟩⟩
def j_Nu_addTurned_9 (v0 : Nat) (v1 : Nat) (v2 : Int32) (v3 : Int32) (g : M2) : Option (M2) := (if (v2 - v2 / (6 : Int32) * (6 : Int32)) = 0 then (bd (uJ g v0 0 ((g.2 v0 0) + (v3.toInt64 * (g.2 v1 0)))) fun g27 => (bd (uJ g27 v0 1 ((g27.2 v0 1) + (v3.toInt64 * (g.2 v1 1)))) fun g28 => (bd (uJ g28 v0 2 ((g28.2 v0 2) + (v3.toInt64 * (g.2 v1 2)))) fun g29 => (bd (uJ g29 v0 3 ((g29.2 v0 3) + (v3.toInt64 * (g.2 v1 3)))) fun g30 => some g30)))) else (if (v2 - v2 / (6 : Int32) * (6 : Int32)) = 1 then (bd (uJ g v0 0 ((g.2 v0 0) - (v3.toInt64 * (g.2 v1 3)))) fun g23 => (bd (uJ g23 v0 1 ((g23.2 v0 1) + (v3.toInt64 * (g.2 v1 0)))) fun g24 => (bd (uJ g24 v0 2 ((g24.2 v0 2) + ((v3.toInt64 * (g.2 v1 1)) + (v3.toInt64 * (g.2 v1 3))))) fun g25 => (bd (uJ g25 v0 3 ((g25.2 v0 3) + (v3.toInt64 * (g.2 v1 2)))) fun g26 => some g26)))) else (if (v2 - v2 / (6 : Int32) * (6 : Int32)) = 2 then (bd (uJ g v0 0 ((g.2 v0 0) - (v3.toInt64 * (g.2 v1 2)))) fun g19 => (bd (uJ g19 v0 1 ((g19.2 v0 1) - (v3.toInt64 * (g.2 v1 3)))) fun g20 => (bd (uJ g20 v0 2 ((g20.2 v0 2) + ((v3.toInt64 * (g.2 v1 0)) + (v3.toInt64 * (g.2 v1 2))))) fun g21 => (bd (uJ g21 v0 3 ((g21.2 v0 3) + ((v3.toInt64 * (g.2 v1 1)) + (v3.toInt64 * (g.2 v1 3))))) fun g22 => some g22)))) else (if (v2 - v2 / (6 : Int32) * (6 : Int32)) = 3 then (bd (uJ g v0 0 ((g.2 v0 0) - ((v3.toInt64 * (g.2 v1 1)) + (v3.toInt64 * (g.2 v1 3))))) fun g15 => (bd (uJ g15 v0 1 ((g15.2 v0 1) - (v3.toInt64 * (g.2 v1 2)))) fun g16 => (bd (uJ g16 v0 2 ((g16.2 v0 2) + (v3.toInt64 * (g.2 v1 1)))) fun g17 => (bd (uJ g17 v0 3 ((g17.2 v0 3) + ((v3.toInt64 * (g.2 v1 0)) + (v3.toInt64 * (g.2 v1 2))))) fun g18 => some g18)))) else (if (v2 - v2 / (6 : Int32) * (6 : Int32)) = 4 then (bd (uJ g v0 0 ((g.2 v0 0) - ((v3.toInt64 * (g.2 v1 0)) + (v3.toInt64 * (g.2 v1 2))))) fun g11 => (bd (uJ g11 v0 1 ((g11.2 v0 1) - ((v3.toInt64 * (g.2 v1 1)) + (v3.toInt64 * (g.2 v1 3))))) fun g12 => (bd (uJ g12 v0 2 ((g12.2 v0 2) + (v3.toInt64 * (g.2 v1 0)))) fun g13 => (bd (uJ g13 v0 3 ((g13.2 v0 3) + (v3.toInt64 * (g.2 v1 1)))) fun g14 => some g14)))) else (bd (uJ g v0 0 ((g.2 v0 0) - (v3.toInt64 * (g.2 v1 1)))) fun g2 => (bd (uJ g2 v0 1 ((g2.2 v0 1) - ((v3.toInt64 * (g.2 v1 0)) + (v3.toInt64 * (g.2 v1 2))))) fun g3 => (bd (uJ g3 v0 2 ((g3.2 v0 2) - (v3.toInt64 * (g.2 v1 3)))) fun g4 => (bd (uJ g4 v0 3 ((g4.2 v0 3) + (v3.toInt64 * (g.2 v1 0)))) fun g5 => some g5)))))))))
theorem tj_Nu_addTurned_9 {Lx : Nat}  (v0 : Nat) (v1 : Nat) (v2 : Int32) (v3 : Int32) (hv0 : IsNum v0) (hv1 : IsNum v1) (g : M2) {b : M2} (h : j_Nu_addTurned_9 v0 v1 v2 v3 g = some b) : Ev Lx 93 cd_93 9 [some (.ref v0), some (.ref v1), some (.int v2), some (.int v3)] [] g (none, b) := by
  unfold j_Nu_addTurned_9 at h
  refine ev_rn (n := 3) (i2 := 12) (L2 := [some (.ref v0), some (.ref v1), some (.int v2), some (.int v3)]) (st2 := [.ref v1, .long v3.toInt64]) (g2 := g) cdE_93 rfl ?_
  refine ev_gf (v := .long (g.2 v1 0)) rfl hv1 (by decide) rfl ?_
  refine ev_rn (n := 2) (i2 := 15) (L2 := [some (.ref v0), some (.ref v1), some (.int v2), some (.int v3), some (.long (v3.toInt64 * (g.2 v1 0))), none]) (st2 := []) (g2 := g) cdE_93 rfl ?_
  refine ev_rn (n := 3) (i2 := 18) (L2 := [some (.ref v0), some (.ref v1), some (.int v2), some (.int v3), some (.long (v3.toInt64 * (g.2 v1 0))), none]) (st2 := [.ref v1, .long v3.toInt64]) (g2 := g) cdE_93 rfl ?_
  refine ev_gf (v := .long (g.2 v1 1)) rfl hv1 (by decide) rfl ?_
  refine ev_rn (n := 2) (i2 := 21) (L2 := [some (.ref v0), some (.ref v1), some (.int v2), some (.int v3), some (.long (v3.toInt64 * (g.2 v1 0))), none, some (.long (v3.toInt64 * (g.2 v1 1))), none]) (st2 := []) (g2 := g) cdE_93 rfl ?_
  refine ev_rn (n := 3) (i2 := 24) (L2 := [some (.ref v0), some (.ref v1), some (.int v2), some (.int v3), some (.long (v3.toInt64 * (g.2 v1 0))), none, some (.long (v3.toInt64 * (g.2 v1 1))), none]) (st2 := [.ref v1, .long v3.toInt64]) (g2 := g) cdE_93 rfl ?_
  refine ev_gf (v := .long (g.2 v1 2)) rfl hv1 (by decide) rfl ?_
  refine ev_rn (n := 2) (i2 := 27) (L2 := [some (.ref v0), some (.ref v1), some (.int v2), some (.int v3), some (.long (v3.toInt64 * (g.2 v1 0))), none, some (.long (v3.toInt64 * (g.2 v1 1))), none, some (.long (v3.toInt64 * (g.2 v1 2))), none]) (st2 := []) (g2 := g) cdE_93 rfl ?_
  refine ev_rn (n := 3) (i2 := 30) (L2 := [some (.ref v0), some (.ref v1), some (.int v2), some (.int v3), some (.long (v3.toInt64 * (g.2 v1 0))), none, some (.long (v3.toInt64 * (g.2 v1 1))), none, some (.long (v3.toInt64 * (g.2 v1 2))), none]) (st2 := [.ref v1, .long v3.toInt64]) (g2 := g) cdE_93 rfl ?_
  refine ev_gf (v := .long (g.2 v1 3)) rfl hv1 (by decide) rfl ?_
  refine ev_rn (n := 2) (i2 := 33) (L2 := [some (.ref v0), some (.ref v1), some (.int v2), some (.int v3), some (.long (v3.toInt64 * (g.2 v1 0))), none, some (.long (v3.toInt64 * (g.2 v1 1))), none, some (.long (v3.toInt64 * (g.2 v1 2))), none, some (.long (v3.toInt64 * (g.2 v1 3))), none]) (st2 := []) (g2 := g) cdE_93 rfl ?_
  refine ev_rn (n := 2) (i2 := 35) (L2 := [some (.ref v0), some (.ref v1), some (.int v2), some (.int v3), some (.long (v3.toInt64 * (g.2 v1 0))), none, some (.long (v3.toInt64 * (g.2 v1 1))), none, some (.long (v3.toInt64 * (g.2 v1 2))), none, some (.long (v3.toInt64 * (g.2 v1 3))), none]) (st2 := [.int (6 : Int32), .int v2]) (g2 := g) cdE_93 rfl ?_
  refine ev_irem rfl (by decide) ?_
  by_cases hw6 : (v2 - v2 / (6 : Int32) * (6 : Int32)) = 0
  · rw [if_pos hw6] at h
    refine ev_swi (v := 0) (q := 2) cdE_93 rfl hw6 rfl rfl ?_
    refine ev_rn (n := 2) (i2 := 39) (L2 := [some (.ref v0), some (.ref v1), some (.int v2), some (.int v3), some (.long (v3.toInt64 * (g.2 v1 0))), none, some (.long (v3.toInt64 * (g.2 v1 1))), none, some (.long (v3.toInt64 * (g.2 v1 2))), none, some (.long (v3.toInt64 * (g.2 v1 3))), none]) (st2 := [.ref v0, .ref v0]) (g2 := g) cdE_93 rfl ?_
    refine ev_gf (v := .long (g.2 v0 0)) rfl hv0 (by decide) rfl ?_
    refine ev_rn (n := 2) (i2 := 42) (L2 := [some (.ref v0), some (.ref v1), some (.int v2), some (.int v3), some (.long (v3.toInt64 * (g.2 v1 0))), none, some (.long (v3.toInt64 * (g.2 v1 1))), none, some (.long (v3.toInt64 * (g.2 v1 2))), none, some (.long (v3.toInt64 * (g.2 v1 3))), none]) (st2 := [.long ((g.2 v0 0) + (v3.toInt64 * (g.2 v1 0))), .ref v0]) (g2 := g) cdE_93 rfl ?_
    refine bd_elim h (fun g27 hg27 h => ?_)
    refine ev_pf (g2 := g27) rfl hv0 (by decide) (by rw [hg27] <;> rfl) ?_
    refine ev_rn (n := 2) (i2 := 45) (L2 := [some (.ref v0), some (.ref v1), some (.int v2), some (.int v3), some (.long (v3.toInt64 * (g.2 v1 0))), none, some (.long (v3.toInt64 * (g.2 v1 1))), none, some (.long (v3.toInt64 * (g.2 v1 2))), none, some (.long (v3.toInt64 * (g.2 v1 3))), none]) (st2 := [.ref v0, .ref v0]) (g2 := g27) cdE_93 rfl ?_
    refine ev_gf (v := .long (g27.2 v0 1)) rfl hv0 (by decide) rfl ?_
    refine ev_rn (n := 2) (i2 := 48) (L2 := [some (.ref v0), some (.ref v1), some (.int v2), some (.int v3), some (.long (v3.toInt64 * (g.2 v1 0))), none, some (.long (v3.toInt64 * (g.2 v1 1))), none, some (.long (v3.toInt64 * (g.2 v1 2))), none, some (.long (v3.toInt64 * (g.2 v1 3))), none]) (st2 := [.long ((g27.2 v0 1) + (v3.toInt64 * (g.2 v1 1))), .ref v0]) (g2 := g27) cdE_93 rfl ?_
    refine bd_elim h (fun g28 hg28 h => ?_)
    refine ev_pf (g2 := g28) rfl hv0 (by decide) (by rw [hg28] <;> rfl) ?_
    refine ev_rn (n := 2) (i2 := 51) (L2 := [some (.ref v0), some (.ref v1), some (.int v2), some (.int v3), some (.long (v3.toInt64 * (g.2 v1 0))), none, some (.long (v3.toInt64 * (g.2 v1 1))), none, some (.long (v3.toInt64 * (g.2 v1 2))), none, some (.long (v3.toInt64 * (g.2 v1 3))), none]) (st2 := [.ref v0, .ref v0]) (g2 := g28) cdE_93 rfl ?_
    refine ev_gf (v := .long (g28.2 v0 2)) rfl hv0 (by decide) rfl ?_
    refine ev_rn (n := 2) (i2 := 54) (L2 := [some (.ref v0), some (.ref v1), some (.int v2), some (.int v3), some (.long (v3.toInt64 * (g.2 v1 0))), none, some (.long (v3.toInt64 * (g.2 v1 1))), none, some (.long (v3.toInt64 * (g.2 v1 2))), none, some (.long (v3.toInt64 * (g.2 v1 3))), none]) (st2 := [.long ((g28.2 v0 2) + (v3.toInt64 * (g.2 v1 2))), .ref v0]) (g2 := g28) cdE_93 rfl ?_
    refine bd_elim h (fun g29 hg29 h => ?_)
    refine ev_pf (g2 := g29) rfl hv0 (by decide) (by rw [hg29] <;> rfl) ?_
    refine ev_rn (n := 2) (i2 := 57) (L2 := [some (.ref v0), some (.ref v1), some (.int v2), some (.int v3), some (.long (v3.toInt64 * (g.2 v1 0))), none, some (.long (v3.toInt64 * (g.2 v1 1))), none, some (.long (v3.toInt64 * (g.2 v1 2))), none, some (.long (v3.toInt64 * (g.2 v1 3))), none]) (st2 := [.ref v0, .ref v0]) (g2 := g29) cdE_93 rfl ?_
    refine ev_gf (v := .long (g29.2 v0 3)) rfl hv0 (by decide) rfl ?_
    refine ev_rn (n := 2) (i2 := 60) (L2 := [some (.ref v0), some (.ref v1), some (.int v2), some (.int v3), some (.long (v3.toInt64 * (g.2 v1 0))), none, some (.long (v3.toInt64 * (g.2 v1 1))), none, some (.long (v3.toInt64 * (g.2 v1 2))), none, some (.long (v3.toInt64 * (g.2 v1 3))), none]) (st2 := [.long ((g29.2 v0 3) + (v3.toInt64 * (g.2 v1 3))), .ref v0]) (g2 := g29) cdE_93 rfl ?_
    refine bd_elim h (fun g30 hg30 h => ?_)
    refine ev_pf (g2 := g30) rfl hv0 (by decide) (by rw [hg30] <;> rfl) ?_
    refine ev_rn (n := 1) (i2 := 202) (L2 := [some (.ref v0), some (.ref v1), some (.int v2), some (.int v3), some (.long (v3.toInt64 * (g.2 v1 0))), none, some (.long (v3.toInt64 * (g.2 v1 1))), none, some (.long (v3.toInt64 * (g.2 v1 2))), none, some (.long (v3.toInt64 * (g.2 v1 3))), none]) (st2 := []) (g2 := g30) cdE_93 rfl ?_
    cases h
    exact ev_ret rfl rfl
  · rw [if_neg hw6] at h
    by_cases hw7 : (v2 - v2 / (6 : Int32) * (6 : Int32)) = 1
    · rw [if_pos hw7] at h
      refine ev_swi (v := 1) (q := 4) cdE_93 rfl hw7 rfl rfl ?_
      refine ev_rn (n := 2) (i2 := 64) (L2 := [some (.ref v0), some (.ref v1), some (.int v2), some (.int v3), some (.long (v3.toInt64 * (g.2 v1 0))), none, some (.long (v3.toInt64 * (g.2 v1 1))), none, some (.long (v3.toInt64 * (g.2 v1 2))), none, some (.long (v3.toInt64 * (g.2 v1 3))), none]) (st2 := [.ref v0, .ref v0]) (g2 := g) cdE_93 rfl ?_
      refine ev_gf (v := .long (g.2 v0 0)) rfl hv0 (by decide) rfl ?_
      refine ev_rn (n := 2) (i2 := 67) (L2 := [some (.ref v0), some (.ref v1), some (.int v2), some (.int v3), some (.long (v3.toInt64 * (g.2 v1 0))), none, some (.long (v3.toInt64 * (g.2 v1 1))), none, some (.long (v3.toInt64 * (g.2 v1 2))), none, some (.long (v3.toInt64 * (g.2 v1 3))), none]) (st2 := [.long ((g.2 v0 0) - (v3.toInt64 * (g.2 v1 3))), .ref v0]) (g2 := g) cdE_93 rfl ?_
      refine bd_elim h (fun g23 hg23 h => ?_)
      refine ev_pf (g2 := g23) rfl hv0 (by decide) (by rw [hg23] <;> rfl) ?_
      refine ev_rn (n := 2) (i2 := 70) (L2 := [some (.ref v0), some (.ref v1), some (.int v2), some (.int v3), some (.long (v3.toInt64 * (g.2 v1 0))), none, some (.long (v3.toInt64 * (g.2 v1 1))), none, some (.long (v3.toInt64 * (g.2 v1 2))), none, some (.long (v3.toInt64 * (g.2 v1 3))), none]) (st2 := [.ref v0, .ref v0]) (g2 := g23) cdE_93 rfl ?_
      refine ev_gf (v := .long (g23.2 v0 1)) rfl hv0 (by decide) rfl ?_
      refine ev_rn (n := 2) (i2 := 73) (L2 := [some (.ref v0), some (.ref v1), some (.int v2), some (.int v3), some (.long (v3.toInt64 * (g.2 v1 0))), none, some (.long (v3.toInt64 * (g.2 v1 1))), none, some (.long (v3.toInt64 * (g.2 v1 2))), none, some (.long (v3.toInt64 * (g.2 v1 3))), none]) (st2 := [.long ((g23.2 v0 1) + (v3.toInt64 * (g.2 v1 0))), .ref v0]) (g2 := g23) cdE_93 rfl ?_
      refine bd_elim h (fun g24 hg24 h => ?_)
      refine ev_pf (g2 := g24) rfl hv0 (by decide) (by rw [hg24] <;> rfl) ?_
      refine ev_rn (n := 2) (i2 := 76) (L2 := [some (.ref v0), some (.ref v1), some (.int v2), some (.int v3), some (.long (v3.toInt64 * (g.2 v1 0))), none, some (.long (v3.toInt64 * (g.2 v1 1))), none, some (.long (v3.toInt64 * (g.2 v1 2))), none, some (.long (v3.toInt64 * (g.2 v1 3))), none]) (st2 := [.ref v0, .ref v0]) (g2 := g24) cdE_93 rfl ?_
      refine ev_gf (v := .long (g24.2 v0 2)) rfl hv0 (by decide) rfl ?_
      refine ev_rn (n := 4) (i2 := 81) (L2 := [some (.ref v0), some (.ref v1), some (.int v2), some (.int v3), some (.long (v3.toInt64 * (g.2 v1 0))), none, some (.long (v3.toInt64 * (g.2 v1 1))), none, some (.long (v3.toInt64 * (g.2 v1 2))), none, some (.long (v3.toInt64 * (g.2 v1 3))), none]) (st2 := [.long ((g24.2 v0 2) + ((v3.toInt64 * (g.2 v1 1)) + (v3.toInt64 * (g.2 v1 3)))), .ref v0]) (g2 := g24) cdE_93 rfl ?_
      refine bd_elim h (fun g25 hg25 h => ?_)
      refine ev_pf (g2 := g25) rfl hv0 (by decide) (by rw [hg25] <;> rfl) ?_
      refine ev_rn (n := 2) (i2 := 84) (L2 := [some (.ref v0), some (.ref v1), some (.int v2), some (.int v3), some (.long (v3.toInt64 * (g.2 v1 0))), none, some (.long (v3.toInt64 * (g.2 v1 1))), none, some (.long (v3.toInt64 * (g.2 v1 2))), none, some (.long (v3.toInt64 * (g.2 v1 3))), none]) (st2 := [.ref v0, .ref v0]) (g2 := g25) cdE_93 rfl ?_
      refine ev_gf (v := .long (g25.2 v0 3)) rfl hv0 (by decide) rfl ?_
      refine ev_rn (n := 2) (i2 := 87) (L2 := [some (.ref v0), some (.ref v1), some (.int v2), some (.int v3), some (.long (v3.toInt64 * (g.2 v1 0))), none, some (.long (v3.toInt64 * (g.2 v1 1))), none, some (.long (v3.toInt64 * (g.2 v1 2))), none, some (.long (v3.toInt64 * (g.2 v1 3))), none]) (st2 := [.long ((g25.2 v0 3) + (v3.toInt64 * (g.2 v1 2))), .ref v0]) (g2 := g25) cdE_93 rfl ?_
      refine bd_elim h (fun g26 hg26 h => ?_)
      refine ev_pf (g2 := g26) rfl hv0 (by decide) (by rw [hg26] <;> rfl) ?_
      refine ev_rn (n := 1) (i2 := 202) (L2 := [some (.ref v0), some (.ref v1), some (.int v2), some (.int v3), some (.long (v3.toInt64 * (g.2 v1 0))), none, some (.long (v3.toInt64 * (g.2 v1 1))), none, some (.long (v3.toInt64 * (g.2 v1 2))), none, some (.long (v3.toInt64 * (g.2 v1 3))), none]) (st2 := []) (g2 := g26) cdE_93 rfl ?_
      cases h
      exact ev_ret rfl rfl
    · rw [if_neg hw7] at h
      by_cases hw8 : (v2 - v2 / (6 : Int32) * (6 : Int32)) = 2
      · rw [if_pos hw8] at h
        refine ev_swi (v := 2) (q := 6) cdE_93 rfl hw8 rfl rfl ?_
        refine ev_rn (n := 2) (i2 := 91) (L2 := [some (.ref v0), some (.ref v1), some (.int v2), some (.int v3), some (.long (v3.toInt64 * (g.2 v1 0))), none, some (.long (v3.toInt64 * (g.2 v1 1))), none, some (.long (v3.toInt64 * (g.2 v1 2))), none, some (.long (v3.toInt64 * (g.2 v1 3))), none]) (st2 := [.ref v0, .ref v0]) (g2 := g) cdE_93 rfl ?_
        refine ev_gf (v := .long (g.2 v0 0)) rfl hv0 (by decide) rfl ?_
        refine ev_rn (n := 2) (i2 := 94) (L2 := [some (.ref v0), some (.ref v1), some (.int v2), some (.int v3), some (.long (v3.toInt64 * (g.2 v1 0))), none, some (.long (v3.toInt64 * (g.2 v1 1))), none, some (.long (v3.toInt64 * (g.2 v1 2))), none, some (.long (v3.toInt64 * (g.2 v1 3))), none]) (st2 := [.long ((g.2 v0 0) - (v3.toInt64 * (g.2 v1 2))), .ref v0]) (g2 := g) cdE_93 rfl ?_
        refine bd_elim h (fun g19 hg19 h => ?_)
        refine ev_pf (g2 := g19) rfl hv0 (by decide) (by rw [hg19] <;> rfl) ?_
        refine ev_rn (n := 2) (i2 := 97) (L2 := [some (.ref v0), some (.ref v1), some (.int v2), some (.int v3), some (.long (v3.toInt64 * (g.2 v1 0))), none, some (.long (v3.toInt64 * (g.2 v1 1))), none, some (.long (v3.toInt64 * (g.2 v1 2))), none, some (.long (v3.toInt64 * (g.2 v1 3))), none]) (st2 := [.ref v0, .ref v0]) (g2 := g19) cdE_93 rfl ?_
        refine ev_gf (v := .long (g19.2 v0 1)) rfl hv0 (by decide) rfl ?_
        refine ev_rn (n := 2) (i2 := 100) (L2 := [some (.ref v0), some (.ref v1), some (.int v2), some (.int v3), some (.long (v3.toInt64 * (g.2 v1 0))), none, some (.long (v3.toInt64 * (g.2 v1 1))), none, some (.long (v3.toInt64 * (g.2 v1 2))), none, some (.long (v3.toInt64 * (g.2 v1 3))), none]) (st2 := [.long ((g19.2 v0 1) - (v3.toInt64 * (g.2 v1 3))), .ref v0]) (g2 := g19) cdE_93 rfl ?_
        refine bd_elim h (fun g20 hg20 h => ?_)
        refine ev_pf (g2 := g20) rfl hv0 (by decide) (by rw [hg20] <;> rfl) ?_
        refine ev_rn (n := 2) (i2 := 103) (L2 := [some (.ref v0), some (.ref v1), some (.int v2), some (.int v3), some (.long (v3.toInt64 * (g.2 v1 0))), none, some (.long (v3.toInt64 * (g.2 v1 1))), none, some (.long (v3.toInt64 * (g.2 v1 2))), none, some (.long (v3.toInt64 * (g.2 v1 3))), none]) (st2 := [.ref v0, .ref v0]) (g2 := g20) cdE_93 rfl ?_
        refine ev_gf (v := .long (g20.2 v0 2)) rfl hv0 (by decide) rfl ?_
        refine ev_rn (n := 4) (i2 := 108) (L2 := [some (.ref v0), some (.ref v1), some (.int v2), some (.int v3), some (.long (v3.toInt64 * (g.2 v1 0))), none, some (.long (v3.toInt64 * (g.2 v1 1))), none, some (.long (v3.toInt64 * (g.2 v1 2))), none, some (.long (v3.toInt64 * (g.2 v1 3))), none]) (st2 := [.long ((g20.2 v0 2) + ((v3.toInt64 * (g.2 v1 0)) + (v3.toInt64 * (g.2 v1 2)))), .ref v0]) (g2 := g20) cdE_93 rfl ?_
        refine bd_elim h (fun g21 hg21 h => ?_)
        refine ev_pf (g2 := g21) rfl hv0 (by decide) (by rw [hg21] <;> rfl) ?_
        refine ev_rn (n := 2) (i2 := 111) (L2 := [some (.ref v0), some (.ref v1), some (.int v2), some (.int v3), some (.long (v3.toInt64 * (g.2 v1 0))), none, some (.long (v3.toInt64 * (g.2 v1 1))), none, some (.long (v3.toInt64 * (g.2 v1 2))), none, some (.long (v3.toInt64 * (g.2 v1 3))), none]) (st2 := [.ref v0, .ref v0]) (g2 := g21) cdE_93 rfl ?_
        refine ev_gf (v := .long (g21.2 v0 3)) rfl hv0 (by decide) rfl ?_
        refine ev_rn (n := 4) (i2 := 116) (L2 := [some (.ref v0), some (.ref v1), some (.int v2), some (.int v3), some (.long (v3.toInt64 * (g.2 v1 0))), none, some (.long (v3.toInt64 * (g.2 v1 1))), none, some (.long (v3.toInt64 * (g.2 v1 2))), none, some (.long (v3.toInt64 * (g.2 v1 3))), none]) (st2 := [.long ((g21.2 v0 3) + ((v3.toInt64 * (g.2 v1 1)) + (v3.toInt64 * (g.2 v1 3)))), .ref v0]) (g2 := g21) cdE_93 rfl ?_
        refine bd_elim h (fun g22 hg22 h => ?_)
        refine ev_pf (g2 := g22) rfl hv0 (by decide) (by rw [hg22] <;> rfl) ?_
        refine ev_rn (n := 1) (i2 := 202) (L2 := [some (.ref v0), some (.ref v1), some (.int v2), some (.int v3), some (.long (v3.toInt64 * (g.2 v1 0))), none, some (.long (v3.toInt64 * (g.2 v1 1))), none, some (.long (v3.toInt64 * (g.2 v1 2))), none, some (.long (v3.toInt64 * (g.2 v1 3))), none]) (st2 := []) (g2 := g22) cdE_93 rfl ?_
        cases h
        exact ev_ret rfl rfl
      · rw [if_neg hw8] at h
        by_cases hw9 : (v2 - v2 / (6 : Int32) * (6 : Int32)) = 3
        · rw [if_pos hw9] at h
          refine ev_swi (v := 3) (q := 8) cdE_93 rfl hw9 rfl rfl ?_
          refine ev_rn (n := 2) (i2 := 120) (L2 := [some (.ref v0), some (.ref v1), some (.int v2), some (.int v3), some (.long (v3.toInt64 * (g.2 v1 0))), none, some (.long (v3.toInt64 * (g.2 v1 1))), none, some (.long (v3.toInt64 * (g.2 v1 2))), none, some (.long (v3.toInt64 * (g.2 v1 3))), none]) (st2 := [.ref v0, .ref v0]) (g2 := g) cdE_93 rfl ?_
          refine ev_gf (v := .long (g.2 v0 0)) rfl hv0 (by decide) rfl ?_
          refine ev_rn (n := 4) (i2 := 125) (L2 := [some (.ref v0), some (.ref v1), some (.int v2), some (.int v3), some (.long (v3.toInt64 * (g.2 v1 0))), none, some (.long (v3.toInt64 * (g.2 v1 1))), none, some (.long (v3.toInt64 * (g.2 v1 2))), none, some (.long (v3.toInt64 * (g.2 v1 3))), none]) (st2 := [.long ((g.2 v0 0) - ((v3.toInt64 * (g.2 v1 1)) + (v3.toInt64 * (g.2 v1 3)))), .ref v0]) (g2 := g) cdE_93 rfl ?_
          refine bd_elim h (fun g15 hg15 h => ?_)
          refine ev_pf (g2 := g15) rfl hv0 (by decide) (by rw [hg15] <;> rfl) ?_
          refine ev_rn (n := 2) (i2 := 128) (L2 := [some (.ref v0), some (.ref v1), some (.int v2), some (.int v3), some (.long (v3.toInt64 * (g.2 v1 0))), none, some (.long (v3.toInt64 * (g.2 v1 1))), none, some (.long (v3.toInt64 * (g.2 v1 2))), none, some (.long (v3.toInt64 * (g.2 v1 3))), none]) (st2 := [.ref v0, .ref v0]) (g2 := g15) cdE_93 rfl ?_
          refine ev_gf (v := .long (g15.2 v0 1)) rfl hv0 (by decide) rfl ?_
          refine ev_rn (n := 2) (i2 := 131) (L2 := [some (.ref v0), some (.ref v1), some (.int v2), some (.int v3), some (.long (v3.toInt64 * (g.2 v1 0))), none, some (.long (v3.toInt64 * (g.2 v1 1))), none, some (.long (v3.toInt64 * (g.2 v1 2))), none, some (.long (v3.toInt64 * (g.2 v1 3))), none]) (st2 := [.long ((g15.2 v0 1) - (v3.toInt64 * (g.2 v1 2))), .ref v0]) (g2 := g15) cdE_93 rfl ?_
          refine bd_elim h (fun g16 hg16 h => ?_)
          refine ev_pf (g2 := g16) rfl hv0 (by decide) (by rw [hg16] <;> rfl) ?_
          refine ev_rn (n := 2) (i2 := 134) (L2 := [some (.ref v0), some (.ref v1), some (.int v2), some (.int v3), some (.long (v3.toInt64 * (g.2 v1 0))), none, some (.long (v3.toInt64 * (g.2 v1 1))), none, some (.long (v3.toInt64 * (g.2 v1 2))), none, some (.long (v3.toInt64 * (g.2 v1 3))), none]) (st2 := [.ref v0, .ref v0]) (g2 := g16) cdE_93 rfl ?_
          refine ev_gf (v := .long (g16.2 v0 2)) rfl hv0 (by decide) rfl ?_
          refine ev_rn (n := 2) (i2 := 137) (L2 := [some (.ref v0), some (.ref v1), some (.int v2), some (.int v3), some (.long (v3.toInt64 * (g.2 v1 0))), none, some (.long (v3.toInt64 * (g.2 v1 1))), none, some (.long (v3.toInt64 * (g.2 v1 2))), none, some (.long (v3.toInt64 * (g.2 v1 3))), none]) (st2 := [.long ((g16.2 v0 2) + (v3.toInt64 * (g.2 v1 1))), .ref v0]) (g2 := g16) cdE_93 rfl ?_
          refine bd_elim h (fun g17 hg17 h => ?_)
          refine ev_pf (g2 := g17) rfl hv0 (by decide) (by rw [hg17] <;> rfl) ?_
          refine ev_rn (n := 2) (i2 := 140) (L2 := [some (.ref v0), some (.ref v1), some (.int v2), some (.int v3), some (.long (v3.toInt64 * (g.2 v1 0))), none, some (.long (v3.toInt64 * (g.2 v1 1))), none, some (.long (v3.toInt64 * (g.2 v1 2))), none, some (.long (v3.toInt64 * (g.2 v1 3))), none]) (st2 := [.ref v0, .ref v0]) (g2 := g17) cdE_93 rfl ?_
          refine ev_gf (v := .long (g17.2 v0 3)) rfl hv0 (by decide) rfl ?_
          refine ev_rn (n := 4) (i2 := 145) (L2 := [some (.ref v0), some (.ref v1), some (.int v2), some (.int v3), some (.long (v3.toInt64 * (g.2 v1 0))), none, some (.long (v3.toInt64 * (g.2 v1 1))), none, some (.long (v3.toInt64 * (g.2 v1 2))), none, some (.long (v3.toInt64 * (g.2 v1 3))), none]) (st2 := [.long ((g17.2 v0 3) + ((v3.toInt64 * (g.2 v1 0)) + (v3.toInt64 * (g.2 v1 2)))), .ref v0]) (g2 := g17) cdE_93 rfl ?_
          refine bd_elim h (fun g18 hg18 h => ?_)
          refine ev_pf (g2 := g18) rfl hv0 (by decide) (by rw [hg18] <;> rfl) ?_
          refine ev_rn (n := 1) (i2 := 202) (L2 := [some (.ref v0), some (.ref v1), some (.int v2), some (.int v3), some (.long (v3.toInt64 * (g.2 v1 0))), none, some (.long (v3.toInt64 * (g.2 v1 1))), none, some (.long (v3.toInt64 * (g.2 v1 2))), none, some (.long (v3.toInt64 * (g.2 v1 3))), none]) (st2 := []) (g2 := g18) cdE_93 rfl ?_
          cases h
          exact ev_ret rfl rfl
        · rw [if_neg hw9] at h
          by_cases hw10 : (v2 - v2 / (6 : Int32) * (6 : Int32)) = 4
          · rw [if_pos hw10] at h
            refine ev_swi (v := 4) (q := 10) cdE_93 rfl hw10 rfl rfl ?_
            refine ev_rn (n := 2) (i2 := 149) (L2 := [some (.ref v0), some (.ref v1), some (.int v2), some (.int v3), some (.long (v3.toInt64 * (g.2 v1 0))), none, some (.long (v3.toInt64 * (g.2 v1 1))), none, some (.long (v3.toInt64 * (g.2 v1 2))), none, some (.long (v3.toInt64 * (g.2 v1 3))), none]) (st2 := [.ref v0, .ref v0]) (g2 := g) cdE_93 rfl ?_
            refine ev_gf (v := .long (g.2 v0 0)) rfl hv0 (by decide) rfl ?_
            refine ev_rn (n := 4) (i2 := 154) (L2 := [some (.ref v0), some (.ref v1), some (.int v2), some (.int v3), some (.long (v3.toInt64 * (g.2 v1 0))), none, some (.long (v3.toInt64 * (g.2 v1 1))), none, some (.long (v3.toInt64 * (g.2 v1 2))), none, some (.long (v3.toInt64 * (g.2 v1 3))), none]) (st2 := [.long ((g.2 v0 0) - ((v3.toInt64 * (g.2 v1 0)) + (v3.toInt64 * (g.2 v1 2)))), .ref v0]) (g2 := g) cdE_93 rfl ?_
            refine bd_elim h (fun g11 hg11 h => ?_)
            refine ev_pf (g2 := g11) rfl hv0 (by decide) (by rw [hg11] <;> rfl) ?_
            refine ev_rn (n := 2) (i2 := 157) (L2 := [some (.ref v0), some (.ref v1), some (.int v2), some (.int v3), some (.long (v3.toInt64 * (g.2 v1 0))), none, some (.long (v3.toInt64 * (g.2 v1 1))), none, some (.long (v3.toInt64 * (g.2 v1 2))), none, some (.long (v3.toInt64 * (g.2 v1 3))), none]) (st2 := [.ref v0, .ref v0]) (g2 := g11) cdE_93 rfl ?_
            refine ev_gf (v := .long (g11.2 v0 1)) rfl hv0 (by decide) rfl ?_
            refine ev_rn (n := 4) (i2 := 162) (L2 := [some (.ref v0), some (.ref v1), some (.int v2), some (.int v3), some (.long (v3.toInt64 * (g.2 v1 0))), none, some (.long (v3.toInt64 * (g.2 v1 1))), none, some (.long (v3.toInt64 * (g.2 v1 2))), none, some (.long (v3.toInt64 * (g.2 v1 3))), none]) (st2 := [.long ((g11.2 v0 1) - ((v3.toInt64 * (g.2 v1 1)) + (v3.toInt64 * (g.2 v1 3)))), .ref v0]) (g2 := g11) cdE_93 rfl ?_
            refine bd_elim h (fun g12 hg12 h => ?_)
            refine ev_pf (g2 := g12) rfl hv0 (by decide) (by rw [hg12] <;> rfl) ?_
            refine ev_rn (n := 2) (i2 := 165) (L2 := [some (.ref v0), some (.ref v1), some (.int v2), some (.int v3), some (.long (v3.toInt64 * (g.2 v1 0))), none, some (.long (v3.toInt64 * (g.2 v1 1))), none, some (.long (v3.toInt64 * (g.2 v1 2))), none, some (.long (v3.toInt64 * (g.2 v1 3))), none]) (st2 := [.ref v0, .ref v0]) (g2 := g12) cdE_93 rfl ?_
            refine ev_gf (v := .long (g12.2 v0 2)) rfl hv0 (by decide) rfl ?_
            refine ev_rn (n := 2) (i2 := 168) (L2 := [some (.ref v0), some (.ref v1), some (.int v2), some (.int v3), some (.long (v3.toInt64 * (g.2 v1 0))), none, some (.long (v3.toInt64 * (g.2 v1 1))), none, some (.long (v3.toInt64 * (g.2 v1 2))), none, some (.long (v3.toInt64 * (g.2 v1 3))), none]) (st2 := [.long ((g12.2 v0 2) + (v3.toInt64 * (g.2 v1 0))), .ref v0]) (g2 := g12) cdE_93 rfl ?_
            refine bd_elim h (fun g13 hg13 h => ?_)
            refine ev_pf (g2 := g13) rfl hv0 (by decide) (by rw [hg13] <;> rfl) ?_
            refine ev_rn (n := 2) (i2 := 171) (L2 := [some (.ref v0), some (.ref v1), some (.int v2), some (.int v3), some (.long (v3.toInt64 * (g.2 v1 0))), none, some (.long (v3.toInt64 * (g.2 v1 1))), none, some (.long (v3.toInt64 * (g.2 v1 2))), none, some (.long (v3.toInt64 * (g.2 v1 3))), none]) (st2 := [.ref v0, .ref v0]) (g2 := g13) cdE_93 rfl ?_
            refine ev_gf (v := .long (g13.2 v0 3)) rfl hv0 (by decide) rfl ?_
            refine ev_rn (n := 2) (i2 := 174) (L2 := [some (.ref v0), some (.ref v1), some (.int v2), some (.int v3), some (.long (v3.toInt64 * (g.2 v1 0))), none, some (.long (v3.toInt64 * (g.2 v1 1))), none, some (.long (v3.toInt64 * (g.2 v1 2))), none, some (.long (v3.toInt64 * (g.2 v1 3))), none]) (st2 := [.long ((g13.2 v0 3) + (v3.toInt64 * (g.2 v1 1))), .ref v0]) (g2 := g13) cdE_93 rfl ?_
            refine bd_elim h (fun g14 hg14 h => ?_)
            refine ev_pf (g2 := g14) rfl hv0 (by decide) (by rw [hg14] <;> rfl) ?_
            refine ev_rn (n := 1) (i2 := 202) (L2 := [some (.ref v0), some (.ref v1), some (.int v2), some (.int v3), some (.long (v3.toInt64 * (g.2 v1 0))), none, some (.long (v3.toInt64 * (g.2 v1 1))), none, some (.long (v3.toInt64 * (g.2 v1 2))), none, some (.long (v3.toInt64 * (g.2 v1 3))), none]) (st2 := []) (g2 := g14) cdE_93 rfl ?_
            cases h
            exact ev_ret rfl rfl
          · rw [if_neg hw10] at h
            have nhw6 : (v2 - v2 / (6 : Int32) * (6 : Int32)).toInt ≠ 0 := fun z => hw6 (Int32.toInt_inj.mp (z.trans (by decide)))
            have nhw7 : (v2 - v2 / (6 : Int32) * (6 : Int32)).toInt ≠ 1 := fun z => hw7 (Int32.toInt_inj.mp (z.trans (by decide)))
            have nhw8 : (v2 - v2 / (6 : Int32) * (6 : Int32)).toInt ≠ 2 := fun z => hw8 (Int32.toInt_inj.mp (z.trans (by decide)))
            have nhw9 : (v2 - v2 / (6 : Int32) * (6 : Int32)).toInt ≠ 3 := fun z => hw9 (Int32.toInt_inj.mp (z.trans (by decide)))
            have nhw10 : (v2 - v2 / (6 : Int32) * (6 : Int32)).toInt ≠ 4 := fun z => hw10 (Int32.toInt_inj.mp (z.trans (by decide)))
            refine ev_swo cdE_93 rfl (by omega) ?_
            refine ev_rn (n := 2) (i2 := 178) (L2 := [some (.ref v0), some (.ref v1), some (.int v2), some (.int v3), some (.long (v3.toInt64 * (g.2 v1 0))), none, some (.long (v3.toInt64 * (g.2 v1 1))), none, some (.long (v3.toInt64 * (g.2 v1 2))), none, some (.long (v3.toInt64 * (g.2 v1 3))), none]) (st2 := [.ref v0, .ref v0]) (g2 := g) cdE_93 rfl ?_
            refine ev_gf (v := .long (g.2 v0 0)) rfl hv0 (by decide) rfl ?_
            refine ev_rn (n := 2) (i2 := 181) (L2 := [some (.ref v0), some (.ref v1), some (.int v2), some (.int v3), some (.long (v3.toInt64 * (g.2 v1 0))), none, some (.long (v3.toInt64 * (g.2 v1 1))), none, some (.long (v3.toInt64 * (g.2 v1 2))), none, some (.long (v3.toInt64 * (g.2 v1 3))), none]) (st2 := [.long ((g.2 v0 0) - (v3.toInt64 * (g.2 v1 1))), .ref v0]) (g2 := g) cdE_93 rfl ?_
            refine bd_elim h (fun g2 hg2 h => ?_)
            refine ev_pf (g2 := g2) rfl hv0 (by decide) (by rw [hg2] <;> rfl) ?_
            refine ev_rn (n := 2) (i2 := 184) (L2 := [some (.ref v0), some (.ref v1), some (.int v2), some (.int v3), some (.long (v3.toInt64 * (g.2 v1 0))), none, some (.long (v3.toInt64 * (g.2 v1 1))), none, some (.long (v3.toInt64 * (g.2 v1 2))), none, some (.long (v3.toInt64 * (g.2 v1 3))), none]) (st2 := [.ref v0, .ref v0]) (g2 := g2) cdE_93 rfl ?_
            refine ev_gf (v := .long (g2.2 v0 1)) rfl hv0 (by decide) rfl ?_
            refine ev_rn (n := 4) (i2 := 189) (L2 := [some (.ref v0), some (.ref v1), some (.int v2), some (.int v3), some (.long (v3.toInt64 * (g.2 v1 0))), none, some (.long (v3.toInt64 * (g.2 v1 1))), none, some (.long (v3.toInt64 * (g.2 v1 2))), none, some (.long (v3.toInt64 * (g.2 v1 3))), none]) (st2 := [.long ((g2.2 v0 1) - ((v3.toInt64 * (g.2 v1 0)) + (v3.toInt64 * (g.2 v1 2)))), .ref v0]) (g2 := g2) cdE_93 rfl ?_
            refine bd_elim h (fun g3 hg3 h => ?_)
            refine ev_pf (g2 := g3) rfl hv0 (by decide) (by rw [hg3] <;> rfl) ?_
            refine ev_rn (n := 2) (i2 := 192) (L2 := [some (.ref v0), some (.ref v1), some (.int v2), some (.int v3), some (.long (v3.toInt64 * (g.2 v1 0))), none, some (.long (v3.toInt64 * (g.2 v1 1))), none, some (.long (v3.toInt64 * (g.2 v1 2))), none, some (.long (v3.toInt64 * (g.2 v1 3))), none]) (st2 := [.ref v0, .ref v0]) (g2 := g3) cdE_93 rfl ?_
            refine ev_gf (v := .long (g3.2 v0 2)) rfl hv0 (by decide) rfl ?_
            refine ev_rn (n := 2) (i2 := 195) (L2 := [some (.ref v0), some (.ref v1), some (.int v2), some (.int v3), some (.long (v3.toInt64 * (g.2 v1 0))), none, some (.long (v3.toInt64 * (g.2 v1 1))), none, some (.long (v3.toInt64 * (g.2 v1 2))), none, some (.long (v3.toInt64 * (g.2 v1 3))), none]) (st2 := [.long ((g3.2 v0 2) - (v3.toInt64 * (g.2 v1 3))), .ref v0]) (g2 := g3) cdE_93 rfl ?_
            refine bd_elim h (fun g4 hg4 h => ?_)
            refine ev_pf (g2 := g4) rfl hv0 (by decide) (by rw [hg4] <;> rfl) ?_
            refine ev_rn (n := 2) (i2 := 198) (L2 := [some (.ref v0), some (.ref v1), some (.int v2), some (.int v3), some (.long (v3.toInt64 * (g.2 v1 0))), none, some (.long (v3.toInt64 * (g.2 v1 1))), none, some (.long (v3.toInt64 * (g.2 v1 2))), none, some (.long (v3.toInt64 * (g.2 v1 3))), none]) (st2 := [.ref v0, .ref v0]) (g2 := g4) cdE_93 rfl ?_
            refine ev_gf (v := .long (g4.2 v0 3)) rfl hv0 (by decide) rfl ?_
            refine ev_rn (n := 2) (i2 := 201) (L2 := [some (.ref v0), some (.ref v1), some (.int v2), some (.int v3), some (.long (v3.toInt64 * (g.2 v1 0))), none, some (.long (v3.toInt64 * (g.2 v1 1))), none, some (.long (v3.toInt64 * (g.2 v1 2))), none, some (.long (v3.toInt64 * (g.2 v1 3))), none]) (st2 := [.long ((g4.2 v0 3) + (v3.toInt64 * (g.2 v1 0))), .ref v0]) (g2 := g4) cdE_93 rfl ?_
            refine bd_elim h (fun g5 hg5 h => ?_)
            refine ev_pf (g2 := g5) rfl hv0 (by decide) (by rw [hg5] <;> rfl) ?_
            cases h
            exact ev_ret rfl rfl
def f_Nu_addTurned (a0 : Nat) (p0 : Nat) (p1 : Int32) (g : M2) : Option (M2) := (if (6 : Int32) ≤ (p1 - p1 / (12 : Int32) * (12 : Int32)) then (j_Nu_addTurned_9 a0 p0 p1 (-1 : Int32) g) else (j_Nu_addTurned_9 a0 p0 p1 (1 : Int32) g))
theorem e_Nu_addTurned {Lx : Nat} (a0 : Nat) (p0 : Nat) (p1 : Int32) (ha0 : IsNum a0) (hp0 : IsNum p0) (g : M2) {b : M2} (h : f_Nu_addTurned a0 p0 p1 g = some b) : Ev Lx 93 cd_93 0 [some (.ref a0), some (.ref p0), some (.int p1)] [] g (none, b) := by
  unfold f_Nu_addTurned at h
  refine ev_rn (n := 2) (i2 := 2) (L2 := [some (.ref a0), some (.ref p0), some (.int p1)]) (st2 := [.int (12 : Int32), .int p1]) (g2 := g) cdE_93 rfl ?_
  refine ev_irem rfl (by decide) ?_
  refine ev_rn (n := 1) (i2 := 4) (L2 := [some (.ref a0), some (.ref p0), some (.int p1)]) (st2 := [.int (6 : Int32), .int (p1 - p1 / (12 : Int32) * (12 : Int32))]) (g2 := g) cdE_93 rfl ?_
  by_cases hc1 : (6 : Int32) ≤ (p1 - p1 / (12 : Int32) * (12 : Int32))
  · rw [if_pos hc1] at h
    refine ev_ift cdE_93 rfl (cn_t hc1) ?_
    refine ev_rn (n := 2) (i2 := 9) (L2 := [some (.ref a0), some (.ref p0), some (.int p1), some (.int (-1 : Int32))]) (st2 := []) (g2 := g) cdE_93 rfl ?_
    exact ev_wk (L := [some (.ref a0), some (.ref p0), some (.int p1), some (.int (-1 : Int32))]) (tj_Nu_addTurned_9  a0 p0 p1 (-1 : Int32) ha0 hp0 g h) ⟨rfl, ⟨rfl, ⟨rfl, ⟨rfl, trivial⟩⟩⟩⟩
  · rw [if_neg hc1] at h
    refine ev_iff rfl (cn_f hc1) ?_
    refine ev_rn (n := 3) (i2 := 9) (L2 := [some (.ref a0), some (.ref p0), some (.int p1), some (.int (1 : Int32))]) (st2 := []) (g2 := g) cdE_93 rfl ?_
    exact ev_wk (L := [some (.ref a0), some (.ref p0), some (.int p1), some (.int (1 : Int32))]) (tj_Nu_addTurned_9  a0 p0 p1 (1 : Int32) ha0 hp0 g h) ⟨rfl, ⟨rfl, ⟨rfl, ⟨rfl, trivial⟩⟩⟩⟩
def b_So_weigh_21 (v0 : Nat) (v1 : Int32) (v2 : Nat) (v3 : Int32) (g : M2) : Option ((Int32 × M2) ⊕ M2) := (if (g.1 v0 11) ≤ v3 then some (.inr g) else (if inb v3 5 then (if inb v3 5 then (if inb v1 5 then ((f_Nu_addTurned v2 ((v0 + 37) + 1 + v3.toNatClampNeg) (((12 : Int32) - (g.1 (v0 + 4) v3.toNatClampNeg)) * (g.1 ((v0 + 1) + 1) v1.toNatClampNeg)) g).bind fun q9 => some (.inl ((v3 + (1 : Int32)), q9))) else none) else none) else none))
theorem tb_So_weigh_21 {Lx : Nat} (v0 : Nat) (v1 : Int32) (v2 : Nat) (hv0 : IsSol v0) (hv2 : IsNum v2) (v3 : Int32) (g : M2) {b : (Int32 × M2) ⊕ M2} {o : Option Value × M2} (h : b_So_weigh_21 v0 v1 v2 v3 g = some b) (hb : Sum.elim (fun s => Ev Lx 94 cd_94 21 [some (.ref v0), some (.int v1), some (.ref v2), some (.int s.1)] [] s.2 o) (fun e => Ev Lx 94 cd_94 45 [some (.ref v0), some (.int v1)] [] e o) b) : Ev Lx 94 cd_94 21 [some (.ref v0), some (.int v1), some (.ref v2), some (.int v3)] [] g o := by
  unfold b_So_weigh_21 at h
  refine ev_rn (n := 2) (i2 := 23) (L2 := [some (.ref v0), some (.int v1), some (.ref v2), some (.int v3)]) (st2 := [.ref v0, .int v3]) (g2 := g) cdE_94 rfl ?_
  refine ev_gf (v := .int (g.1 v0 11)) rfl (so_at hv0) (by decide) rfl ?_
  by_cases hc5 : (g.1 v0 11) ≤ v3
  · rw [if_pos hc5] at h
    refine ev_ift cdE_94 rfl (cn_t hc5) ?_
    cases h
    exact ev_wk (L := [some (.ref v0), some (.int v1)]) hb ⟨rfl, ⟨rfl, trivial⟩⟩
  · rw [if_neg hc5] at h
    refine ev_iff rfl (cn_f hc5) ?_
    refine ev_rn (n := 2) (i2 := 27) (L2 := [some (.ref v0), some (.int v1), some (.ref v2), some (.int v3)]) (st2 := [.ref v0, .ref v2]) (g2 := g) cdE_94 rfl ?_
    refine ev_gf (v := .ref (v0 + 37)) rfl (so_at hv0) (by decide) rfl ?_
    refine ev_rn (n := 1) (i2 := 29) (L2 := [some (.ref v0), some (.int v1), some (.ref v2), some (.int v3)]) (st2 := [.int v3, .ref (v0 + 37), .ref v2]) (g2 := g) cdE_94 rfl ?_
    by_cases hi6 : inb v3 5
    · rw [if_pos hi6] at h
      refine ev_aaload (v := .ref ((v0 + 37) + 1 + v3.toNatClampNeg)) rfl (kd_of (na_at (so_37 hv0))) (by decide) hi6 (na_rf (w := (v0 + 37)) hi6.2) ?_
      refine ev_rn (n := 2) (i2 := 32) (L2 := [some (.ref v0), some (.int v1), some (.ref v2), some (.int v3)]) (st2 := [.ref v0, .int (12 : Int32), .ref ((v0 + 37) + 1 + v3.toNatClampNeg), .ref v2]) (g2 := g) cdE_94 rfl ?_
      refine ev_gf (v := .ref (v0 + 4)) rfl (so_at hv0) (by decide) rfl ?_
      refine ev_rn (n := 1) (i2 := 34) (L2 := [some (.ref v0), some (.int v1), some (.ref v2), some (.int v3)]) (st2 := [.int v3, .ref (v0 + 4), .int (12 : Int32), .ref ((v0 + 37) + 1 + v3.toNatClampNeg), .ref v2]) (g2 := g) cdE_94 rfl ?_
      by_cases hi7 : inb v3 5
      · rw [if_pos hi7] at h
        refine ev_iaload (v := .int (g.1 (v0 + 4) v3.toNatClampNeg)) rfl (kd_of (so_4 hv0)) (by decide) hi7 rfl ?_
        refine ev_rn (n := 2) (i2 := 37) (L2 := [some (.ref v0), some (.int v1), some (.ref v2), some (.int v3)]) (st2 := [.ref v0, .int ((12 : Int32) - (g.1 (v0 + 4) v3.toNatClampNeg)), .ref ((v0 + 37) + 1 + v3.toNatClampNeg), .ref v2]) (g2 := g) cdE_94 rfl ?_
        refine ev_gf (v := .ref (v0 + 1)) rfl (so_at hv0) (by decide) rfl ?_
        refine ev_gf (v := .ref ((v0 + 1) + 1)) rfl (pl_at (so_1 hv0)) (by decide) rfl ?_
        refine ev_rn (n := 1) (i2 := 40) (L2 := [some (.ref v0), some (.int v1), some (.ref v2), some (.int v3)]) (st2 := [.int v1, .ref ((v0 + 1) + 1), .int ((12 : Int32) - (g.1 (v0 + 4) v3.toNatClampNeg)), .ref ((v0 + 37) + 1 + v3.toNatClampNeg), .ref v2]) (g2 := g) cdE_94 rfl ?_
        by_cases hi8 : inb v1 5
        · rw [if_pos hi8] at h
          refine ev_iaload (v := .int (g.1 ((v0 + 1) + 1) v1.toNatClampNeg)) rfl (kd_of (pl_1 (so_1 hv0))) (by decide) hi8 rfl ?_
          refine ev_rn (n := 1) (i2 := 42) (L2 := [some (.ref v0), some (.int v1), some (.ref v2), some (.int v3)]) (st2 := [.int (((12 : Int32) - (g.1 (v0 + 4) v3.toNatClampNeg)) * (g.1 ((v0 + 1) + 1) v1.toNatClampNeg)), .ref ((v0 + 37) + 1 + v3.toNatClampNeg), .ref v2]) (g2 := g) cdE_94 rfl ?_
          obtain ⟨q9, hq9, h⟩ := Option.bind_eq_some_iff.mp h
          refine ev_call rfl cdE_93 (cokV rfl rfl hv2 rfl) rfl rfl (e_Nu_addTurned v2 ((v0 + 37) + 1 + v3.toNatClampNeg) (((12 : Int32) - (g.1 (v0 + 4) v3.toNatClampNeg)) * (g.1 ((v0 + 1) + 1) v1.toNatClampNeg)) hv2 (na_el (so_37 hv0) hi6.2) g hq9) ?_
          refine ev_rn (n := 2) (i2 := 21) (L2 := [some (.ref v0), some (.int v1), some (.ref v2), some (.int (v3 + (1 : Int32)))]) (st2 := []) (g2 := q9) cdE_94 rfl ?_
          cases h
          exact ev_wk (L := [some (.ref v0), some (.int v1), some (.ref v2), some (.int (v3 + (1 : Int32)))]) hb ⟨rfl, ⟨rfl, ⟨rfl, ⟨rfl, trivial⟩⟩⟩⟩
        · rw [if_neg hi8] at h
          cases h
      · rw [if_neg hi7] at h
        cases h
    · rw [if_neg hi6] at h
      cases h
def b_So_weigh_2 (v0 : Nat) (v1 : Int32) (g : M2) : Option ((Int32 × M2) ⊕ M2) := (if (g.1 (v0 + 1) 2) ≤ v1 then some (.inr g) else (if inb v1 5 then ((f_Nu_clear ((v0 + 43) + 1 + v1.toNatClampNeg) g).bind fun q3 => (if (f_Pl_works (v0 + 1) v1 q3) = 0 then some (.inl ((v1 + (1 : Int32)), q3)) else ((lp (fun s => b_So_weigh_21 v0 v1 ((v0 + 43) + 1 + v1.toNatClampNeg) s.1 s.2) 5000 ((0 : Int32), q3)).bind fun e10 => some (.inl ((v1 + (1 : Int32)), e10))))) else none))
theorem tb_So_weigh_2 {Lx : Nat} (v0 : Nat) (hv0 : IsSol v0) (v1 : Int32) (g : M2) {b : (Int32 × M2) ⊕ M2} {o : Option Value × M2} (h : b_So_weigh_2 v0 v1 g = some b) (hb : Sum.elim (fun s => Ev Lx 94 cd_94 2 [some (.ref v0), some (.int s.1)] [] s.2 o) (fun e => Ev Lx 94 cd_94 47 [] [] e o) b) : Ev Lx 94 cd_94 2 [some (.ref v0), some (.int v1)] [] g o := by
  unfold b_So_weigh_2 at h
  refine ev_rn (n := 2) (i2 := 4) (L2 := [some (.ref v0), some (.int v1)]) (st2 := [.ref v0, .int v1]) (g2 := g) cdE_94 rfl ?_
  refine ev_gf (v := .ref (v0 + 1)) rfl (so_at hv0) (by decide) rfl ?_
  refine ev_gf (v := .int (g.1 (v0 + 1) 2)) rfl (pl_at (so_1 hv0)) (by decide) rfl ?_
  by_cases hc1 : (g.1 (v0 + 1) 2) ≤ v1
  · rw [if_pos hc1] at h
    refine ev_ift cdE_94 rfl (cn_t hc1) ?_
    cases h
    exact ev_wk (L := []) hb trivial
  · rw [if_neg hc1] at h
    refine ev_iff rfl (cn_f hc1) ?_
    refine ev_rn (n := 1) (i2 := 8) (L2 := [some (.ref v0), some (.int v1)]) (st2 := [.ref v0]) (g2 := g) cdE_94 rfl ?_
    refine ev_gf (v := .ref (v0 + 43)) rfl (so_at hv0) (by decide) rfl ?_
    refine ev_rn (n := 1) (i2 := 10) (L2 := [some (.ref v0), some (.int v1)]) (st2 := [.int v1, .ref (v0 + 43)]) (g2 := g) cdE_94 rfl ?_
    by_cases hi2 : inb v1 5
    · rw [if_pos hi2] at h
      refine ev_aaload (v := .ref ((v0 + 43) + 1 + v1.toNatClampNeg)) rfl (kd_of (na_at (so_43 hv0))) (by decide) hi2 (na_rf (w := (v0 + 43)) hi2.2) ?_
      refine ev_rn (n := 2) (i2 := 13) (L2 := [some (.ref v0), some (.int v1), some (.ref ((v0 + 43) + 1 + v1.toNatClampNeg))]) (st2 := [.ref ((v0 + 43) + 1 + v1.toNatClampNeg)]) (g2 := g) cdE_94 rfl ?_
      obtain ⟨q3, hq3, h⟩ := Option.bind_eq_some_iff.mp h
      refine ev_call rfl cdE_76 (cokV rfl rfl (na_el (so_43 hv0) hi2.2) rfl) rfl rfl (e_Nu_clear ((v0 + 43) + 1 + v1.toNatClampNeg) (na_el (so_43 hv0) hi2.2) g hq3) ?_
      refine ev_rn (n := 1) (i2 := 15) (L2 := [some (.ref v0), some (.int v1), some (.ref ((v0 + 43) + 1 + v1.toNatClampNeg))]) (st2 := [.ref v0]) (g2 := q3) cdE_94 rfl ?_
      refine ev_gf (v := .ref (v0 + 1)) rfl (so_at hv0) (by decide) rfl ?_
      refine ev_rn (n := 1) (i2 := 17) (L2 := [some (.ref v0), some (.int v1), some (.ref ((v0 + 43) + 1 + v1.toNatClampNeg))]) (st2 := [.int v1, .ref (v0 + 1)]) (g2 := q3) cdE_94 rfl ?_
      refine ev_call rfl cdE_67 (cokV rfl rfl (pl_at (so_1 hv0)) rfl) rfl rfl (e_Pl_works (v0 + 1) v1 (so_1 hv0) q3 rfl) ?_
      by_cases hc4 : (f_Pl_works (v0 + 1) v1 q3) = 0
      · rw [if_pos hc4] at h
        refine ev_zft cdE_94 rfl (cn_t hc4) ?_
        refine ev_rn (n := 2) (i2 := 2) (L2 := [some (.ref v0), some (.int (v1 + (1 : Int32))), some (.ref ((v0 + 43) + 1 + v1.toNatClampNeg))]) (st2 := []) (g2 := q3) cdE_94 rfl ?_
        cases h
        exact ev_wk (L := [some (.ref v0), some (.int (v1 + (1 : Int32)))]) hb ⟨rfl, ⟨rfl, trivial⟩⟩
      · rw [if_neg hc4] at h
        refine ev_zff rfl (cn_f hc4) ?_
        refine ev_rn (n := 2) (i2 := 21) (L2 := [some (.ref v0), some (.int v1), some (.ref ((v0 + 43) + 1 + v1.toNatClampNeg)), some (.int (0 : Int32))]) (st2 := []) (g2 := q3) cdE_94 rfl ?_
        obtain ⟨e10, he10, h⟩ := Option.bind_eq_some_iff.mp h
        have hX11 : Ev Lx 94 cd_94 45 [some (.ref v0), some (.int v1)] [] e10 o := by
          refine ev_rn (n := 2) (i2 := 2) (L2 := [some (.ref v0), some (.int (v1 + (1 : Int32)))]) (st2 := []) (g2 := e10) cdE_94 rfl ?_
          cases h
          exact ev_wk (L := [some (.ref v0), some (.int (v1 + (1 : Int32)))]) hb ⟨rfl, ⟨rfl, trivial⟩⟩
        exact ev_wk (L := [some (.ref v0), some (.int v1), some (.ref ((v0 + 43) + 1 + v1.toNatClampNeg)), some (.int (0 : Int32))]) (lp_ind (P := (fun (s : (Int32 × M2)) => Ev Lx 94 cd_94 21 [some (.ref v0), some (.int v1), some (.ref ((v0 + 43) + 1 + v1.toNatClampNeg)), some (.int s.1)] [] s.2 o)) (fun s s2 hs hP => tb_So_weigh_21 v0 v1 ((v0 + 43) + 1 + v1.toNatClampNeg) hv0 (na_el (so_43 hv0) hi2.2) s.1 s.2 (b := .inl s2) hs hP) (fun s hs => tb_So_weigh_21 v0 v1 ((v0 + 43) + 1 + v1.toNatClampNeg) hv0 (na_el (so_43 hv0) hi2.2) s.1 s.2 (b := .inr e10) hs hX11) _ _ he10) ⟨rfl, ⟨rfl, ⟨rfl, ⟨rfl, trivial⟩⟩⟩⟩
    · rw [if_neg hi2] at h
      cases h
def f_So_weigh (a0 : Nat) (g : M2) : Option (M2) := ((lp (fun s => b_So_weigh_2 a0 s.1 s.2) 5000 ((0 : Int32), g)).bind fun e12 => some e12)
theorem e_So_weigh {Lx : Nat} (a0 : Nat) (ha0 : IsSol a0) (g : M2) {b : M2} (h : f_So_weigh a0 g = some b) : Ev Lx 94 cd_94 0 [some (.ref a0)] [] g (none, b) := by
  unfold f_So_weigh at h
  refine ev_rn (n := 2) (i2 := 2) (L2 := [some (.ref a0), some (.int (0 : Int32))]) (st2 := []) (g2 := g) cdE_94 rfl ?_
  obtain ⟨e12, he12, h⟩ := Option.bind_eq_some_iff.mp h
  have hX13 : Ev Lx 94 cd_94 47 [] [] e12 (none, b) := by
    cases h
    exact ev_ret rfl rfl
  exact ev_wk (L := [some (.ref a0), some (.int (0 : Int32))]) (lp_ind (P := (fun (s : (Int32 × M2)) => Ev Lx 94 cd_94 2 [some (.ref a0), some (.int s.1)] [] s.2 (none, b))) (fun s s2 hs hP => tb_So_weigh_2 a0 ha0 s.1 s.2 (b := .inl s2) hs hP) (fun s hs => tb_So_weigh_2 a0 ha0 s.1 s.2 (b := .inr e12) hs hX13) _ _ he12) ⟨rfl, ⟨rfl, trivial⟩⟩
def f_So_solve (a0 : Nat) (g : M2) : Option (M2) := ((f_So_listWishes a0 g).bind fun q1 => ((f_So_fillForm a0 q1).bind fun q2 => (if (q2.1 (a0 + 1) 4) = (-1 : Int32) then (bd (uI q2 a0 13 (0 : Int32)) fun g4 => ((f_So_eliminate a0 g4).bind fun q5 => (if (q5.1 a0 13) = 0 then some q5 else ((f_So_substitute a0 q5).bind fun q7 => ((f_So_weigh a0 q7).bind fun q8 => some q8))))) else (bd (uI q2 a0 13 (1 : Int32)) fun g9 => ((f_So_eliminate a0 g9).bind fun q10 => (if (q10.1 a0 13) = 0 then some q10 else ((f_So_substitute a0 q10).bind fun q12 => ((f_So_weigh a0 q12).bind fun q13 => some q13))))))))
theorem e_So_solve {Lx : Nat} (a0 : Nat) (ha0 : IsSol a0) (g : M2) {b : M2} (h : f_So_solve a0 g = some b) : Ev Lx 95 cd_95 0 [some (.ref a0)] [] g (none, b) := by
  unfold f_So_solve at h
  refine ev_rn (n := 1) (i2 := 1) (L2 := [some (.ref a0)]) (st2 := [.ref a0]) (g2 := g) cdE_95 rfl ?_
  obtain ⟨q1, hq1, h⟩ := Option.bind_eq_some_iff.mp h
  refine ev_call rfl cdE_75 (cokV rfl rfl (so_at ha0) rfl) rfl rfl (e_So_listWishes a0 ha0 g hq1) ?_
  refine ev_rn (n := 1) (i2 := 3) (L2 := [some (.ref a0)]) (st2 := [.ref a0]) (g2 := q1) cdE_95 rfl ?_
  obtain ⟨q2, hq2, h⟩ := Option.bind_eq_some_iff.mp h
  refine ev_call rfl cdE_79 (cokV rfl rfl (so_at ha0) rfl) rfl rfl (e_So_fillForm a0 ha0 q1 hq2) ?_
  refine ev_rn (n := 2) (i2 := 6) (L2 := [some (.ref a0)]) (st2 := [.ref a0, .ref a0]) (g2 := q2) cdE_95 rfl ?_
  refine ev_gf (v := .ref (a0 + 1)) rfl (so_at ha0) (by decide) rfl ?_
  refine ev_gf (v := .int (q2.1 (a0 + 1) 4)) rfl (pl_at (so_1 ha0)) (by decide) rfl ?_
  refine ev_rn (n := 1) (i2 := 9) (L2 := [some (.ref a0)]) (st2 := [.int (-1 : Int32), .int (q2.1 (a0 + 1) 4), .ref a0]) (g2 := q2) cdE_95 rfl ?_
  by_cases hc3 : (q2.1 (a0 + 1) 4) = (-1 : Int32)
  · rw [if_pos hc3] at h
    refine ev_ift cdE_95 rfl (cn_t hc3) ?_
    refine ev_rn (n := 1) (i2 := 13) (L2 := [some (.ref a0)]) (st2 := [.int (0 : Int32), .ref a0]) (g2 := q2) cdE_95 rfl ?_
    refine bd_elim h (fun g4 hg4 h => ?_)
    refine ev_pf (g2 := g4) rfl (so_at ha0) (by decide) (by rw [hg4] <;> rfl) ?_
    refine ev_rn (n := 1) (i2 := 15) (L2 := [some (.ref a0)]) (st2 := [.ref a0]) (g2 := g4) cdE_95 rfl ?_
    obtain ⟨q5, hq5, h⟩ := Option.bind_eq_some_iff.mp h
    refine ev_call rfl cdE_90 (cokV rfl rfl (so_at ha0) rfl) rfl rfl (e_So_eliminate a0 ha0 g4 hq5) ?_
    refine ev_rn (n := 1) (i2 := 17) (L2 := [some (.ref a0)]) (st2 := [.ref a0]) (g2 := q5) cdE_95 rfl ?_
    refine ev_gf (v := .int (q5.1 a0 13)) rfl (so_at ha0) (by decide) rfl ?_
    by_cases hc6 : (q5.1 a0 13) = 0
    · rw [if_pos hc6] at h
      refine ev_zft cdE_95 rfl (cn_t hc6) ?_
      cases h
      exact ev_ret rfl rfl
    · rw [if_neg hc6] at h
      refine ev_zff rfl (cn_f hc6) ?_
      refine ev_rn (n := 1) (i2 := 20) (L2 := [some (.ref a0)]) (st2 := [.ref a0]) (g2 := q5) cdE_95 rfl ?_
      obtain ⟨q7, hq7, h⟩ := Option.bind_eq_some_iff.mp h
      refine ev_call rfl cdE_92 (cokV rfl rfl (so_at ha0) rfl) rfl rfl (e_So_substitute a0 ha0 q5 hq7) ?_
      refine ev_rn (n := 1) (i2 := 22) (L2 := [some (.ref a0)]) (st2 := [.ref a0]) (g2 := q7) cdE_95 rfl ?_
      obtain ⟨q8, hq8, h⟩ := Option.bind_eq_some_iff.mp h
      refine ev_call rfl cdE_94 (cokV rfl rfl (so_at ha0) rfl) rfl rfl (e_So_weigh a0 ha0 q7 hq8) ?_
      cases h
      exact ev_ret rfl rfl
  · rw [if_neg hc3] at h
    refine ev_iff rfl (cn_f hc3) ?_
    refine ev_rn (n := 2) (i2 := 13) (L2 := [some (.ref a0)]) (st2 := [.int (1 : Int32), .ref a0]) (g2 := q2) cdE_95 rfl ?_
    refine bd_elim h (fun g9 hg9 h => ?_)
    refine ev_pf (g2 := g9) rfl (so_at ha0) (by decide) (by rw [hg9] <;> rfl) ?_
    refine ev_rn (n := 1) (i2 := 15) (L2 := [some (.ref a0)]) (st2 := [.ref a0]) (g2 := g9) cdE_95 rfl ?_
    obtain ⟨q10, hq10, h⟩ := Option.bind_eq_some_iff.mp h
    refine ev_call rfl cdE_90 (cokV rfl rfl (so_at ha0) rfl) rfl rfl (e_So_eliminate a0 ha0 g9 hq10) ?_
    refine ev_rn (n := 1) (i2 := 17) (L2 := [some (.ref a0)]) (st2 := [.ref a0]) (g2 := q10) cdE_95 rfl ?_
    refine ev_gf (v := .int (q10.1 a0 13)) rfl (so_at ha0) (by decide) rfl ?_
    by_cases hc11 : (q10.1 a0 13) = 0
    · rw [if_pos hc11] at h
      refine ev_zft cdE_95 rfl (cn_t hc11) ?_
      cases h
      exact ev_ret rfl rfl
    · rw [if_neg hc11] at h
      refine ev_zff rfl (cn_f hc11) ?_
      refine ev_rn (n := 1) (i2 := 20) (L2 := [some (.ref a0)]) (st2 := [.ref a0]) (g2 := q10) cdE_95 rfl ?_
      obtain ⟨q12, hq12, h⟩ := Option.bind_eq_some_iff.mp h
      refine ev_call rfl cdE_92 (cokV rfl rfl (so_at ha0) rfl) rfl rfl (e_So_substitute a0 ha0 q10 hq12) ?_
      refine ev_rn (n := 1) (i2 := 22) (L2 := [some (.ref a0)]) (st2 := [.ref a0]) (g2 := q12) cdE_95 rfl ?_
      obtain ⟨q13, hq13, h⟩ := Option.bind_eq_some_iff.mp h
      refine ev_call rfl cdE_94 (cokV rfl rfl (so_at ha0) rfl) rfl rfl (e_So_weigh a0 ha0 q12 hq13) ?_
      cases h
      exact ev_ret rfl rfl
def b_Pl_hearBy_4 (v0 : Nat) (v1 : Nat) (v2 : Int32) (v3 : Nat) (v4 : Int32) (g : M2) : Option ((Int32 × M2) ⊕ M2) := (if (g.1 v0 2) ≤ v4 then some (.inr g) else (if (5 : Int32) ≤ v4 then some (.inr g) else (if (f_Pl_works v0 v4 g) = 0 then some (.inl ((v4 + (1 : Int32)), g)) else (if inb v4 5 then (if inb v4 5 then ((f_Nu_addTurned v3 (v1 + 1 + v4.toNatClampNeg) (v2 * (g.1 (v0 + 1) v4.toNatClampNeg)) g).bind fun q7 => some (.inl ((v4 + (1 : Int32)), q7))) else none) else none))))
theorem tb_Pl_hearBy_4 {Lx : Nat} (v0 : Nat) (v1 : Nat) (v2 : Int32) (v3 : Nat) (hv0 : IsPlan v0) (hv1 : IsNA v1 5) (hv3 : IsNum v3) (v4 : Int32) (g : M2) {b : (Int32 × M2) ⊕ M2} {o : Option Value × M2} (h : b_Pl_hearBy_4 v0 v1 v2 v3 v4 g = some b) (hb : Sum.elim (fun s => Ev Lx 96 cd_96 4 [some (.ref v0), some (.ref v1), some (.int v2), some (.ref v3), some (.int s.1)] [] s.2 o) (fun e => Ev Lx 96 cd_96 29 [] [] e o) b) : Ev Lx 96 cd_96 4 [some (.ref v0), some (.ref v1), some (.int v2), some (.ref v3), some (.int v4)] [] g o := by
  unfold b_Pl_hearBy_4 at h
  refine ev_rn (n := 2) (i2 := 6) (L2 := [some (.ref v0), some (.ref v1), some (.int v2), some (.ref v3), some (.int v4)]) (st2 := [.ref v0, .int v4]) (g2 := g) cdE_96 rfl ?_
  refine ev_gf (v := .int (g.1 v0 2)) rfl (pl_at hv0) (by decide) rfl ?_
  by_cases hc2 : (g.1 v0 2) ≤ v4
  · rw [if_pos hc2] at h
    refine ev_ift cdE_96 rfl (cn_t hc2) ?_
    cases h
    exact ev_wk (L := []) hb trivial
  · rw [if_neg hc2] at h
    refine ev_iff rfl (cn_f hc2) ?_
    refine ev_rn (n := 2) (i2 := 10) (L2 := [some (.ref v0), some (.ref v1), some (.int v2), some (.ref v3), some (.int v4)]) (st2 := [.ref v1, .int v4]) (g2 := g) cdE_96 rfl ?_
    refine ev_len (N := 5) rfl (na_at hv1) (by decide) ?_
    by_cases hc3 : (5 : Int32) ≤ v4
    · rw [if_pos hc3] at h
      refine ev_ift cdE_96 rfl (cn_t hc3) ?_
      cases h
      exact ev_wk (L := []) hb trivial
    · rw [if_neg hc3] at h
      refine ev_iff rfl (cn_f hc3) ?_
      refine ev_rn (n := 2) (i2 := 14) (L2 := [some (.ref v0), some (.ref v1), some (.int v2), some (.ref v3), some (.int v4)]) (st2 := [.int v4, .ref v0]) (g2 := g) cdE_96 rfl ?_
      refine ev_call rfl cdE_67 (cokV rfl rfl (pl_at hv0) rfl) rfl rfl (e_Pl_works v0 v4 hv0 g rfl) ?_
      by_cases hc4 : (f_Pl_works v0 v4 g) = 0
      · rw [if_pos hc4] at h
        refine ev_zft cdE_96 rfl (cn_t hc4) ?_
        refine ev_rn (n := 2) (i2 := 4) (L2 := [some (.ref v0), some (.ref v1), some (.int v2), some (.ref v3), some (.int (v4 + (1 : Int32)))]) (st2 := []) (g2 := g) cdE_96 rfl ?_
        cases h
        exact ev_wk (L := [some (.ref v0), some (.ref v1), some (.int v2), some (.ref v3), some (.int (v4 + (1 : Int32)))]) hb ⟨rfl, ⟨rfl, ⟨rfl, ⟨rfl, ⟨rfl, trivial⟩⟩⟩⟩⟩
      · rw [if_neg hc4] at h
        refine ev_zff rfl (cn_f hc4) ?_
        refine ev_rn (n := 3) (i2 := 19) (L2 := [some (.ref v0), some (.ref v1), some (.int v2), some (.ref v3), some (.int v4)]) (st2 := [.int v4, .ref v1, .ref v3]) (g2 := g) cdE_96 rfl ?_
        by_cases hi5 : inb v4 5
        · rw [if_pos hi5] at h
          refine ev_aaload (v := .ref (v1 + 1 + v4.toNatClampNeg)) rfl (kd_of (na_at hv1)) (by decide) hi5 (na_rf (w := v1) hi5.2) ?_
          refine ev_rn (n := 2) (i2 := 22) (L2 := [some (.ref v0), some (.ref v1), some (.int v2), some (.ref v3), some (.int v4)]) (st2 := [.ref v0, .int v2, .ref (v1 + 1 + v4.toNatClampNeg), .ref v3]) (g2 := g) cdE_96 rfl ?_
          refine ev_gf (v := .ref (v0 + 1)) rfl (pl_at hv0) (by decide) rfl ?_
          refine ev_rn (n := 1) (i2 := 24) (L2 := [some (.ref v0), some (.ref v1), some (.int v2), some (.ref v3), some (.int v4)]) (st2 := [.int v4, .ref (v0 + 1), .int v2, .ref (v1 + 1 + v4.toNatClampNeg), .ref v3]) (g2 := g) cdE_96 rfl ?_
          by_cases hi6 : inb v4 5
          · rw [if_pos hi6] at h
            refine ev_iaload (v := .int (g.1 (v0 + 1) v4.toNatClampNeg)) rfl (kd_of (pl_1 hv0)) (by decide) hi6 rfl ?_
            refine ev_rn (n := 1) (i2 := 26) (L2 := [some (.ref v0), some (.ref v1), some (.int v2), some (.ref v3), some (.int v4)]) (st2 := [.int (v2 * (g.1 (v0 + 1) v4.toNatClampNeg)), .ref (v1 + 1 + v4.toNatClampNeg), .ref v3]) (g2 := g) cdE_96 rfl ?_
            obtain ⟨q7, hq7, h⟩ := Option.bind_eq_some_iff.mp h
            refine ev_call rfl cdE_93 (cokV rfl rfl hv3 rfl) rfl rfl (e_Nu_addTurned v3 (v1 + 1 + v4.toNatClampNeg) (v2 * (g.1 (v0 + 1) v4.toNatClampNeg)) hv3 (na_el hv1 hi5.2) g hq7) ?_
            refine ev_rn (n := 2) (i2 := 4) (L2 := [some (.ref v0), some (.ref v1), some (.int v2), some (.ref v3), some (.int (v4 + (1 : Int32)))]) (st2 := []) (g2 := q7) cdE_96 rfl ?_
            cases h
            exact ev_wk (L := [some (.ref v0), some (.ref v1), some (.int v2), some (.ref v3), some (.int (v4 + (1 : Int32)))]) hb ⟨rfl, ⟨rfl, ⟨rfl, ⟨rfl, ⟨rfl, trivial⟩⟩⟩⟩⟩
          · rw [if_neg hi6] at h
            cases h
        · rw [if_neg hi5] at h
          cases h
def f_Pl_hearBy (a0 : Nat) (p0 : Nat) (p1 : Int32) (p2 : Nat) (g : M2) : Option (M2) := ((f_Nu_clear p2 g).bind fun q1 => ((lp (fun s => b_Pl_hearBy_4 a0 p0 p1 p2 s.1 s.2) 5000 ((0 : Int32), q1)).bind fun e8 => some e8))
theorem e_Pl_hearBy {Lx : Nat} (a0 : Nat) (p0 : Nat) (p1 : Int32) (p2 : Nat) (ha0 : IsPlan a0) (hp0 : IsNA p0 5) (hp2 : IsNum p2) (g : M2) {b : M2} (h : f_Pl_hearBy a0 p0 p1 p2 g = some b) : Ev Lx 96 cd_96 0 [some (.ref a0), some (.ref p0), some (.int p1), some (.ref p2)] [] g (none, b) := by
  unfold f_Pl_hearBy at h
  refine ev_rn (n := 1) (i2 := 1) (L2 := [some (.ref a0), some (.ref p0), some (.int p1), some (.ref p2)]) (st2 := [.ref p2]) (g2 := g) cdE_96 rfl ?_
  obtain ⟨q1, hq1, h⟩ := Option.bind_eq_some_iff.mp h
  refine ev_call rfl cdE_76 (cokV rfl rfl hp2 rfl) rfl rfl (e_Nu_clear p2 hp2 g hq1) ?_
  refine ev_rn (n := 2) (i2 := 4) (L2 := [some (.ref a0), some (.ref p0), some (.int p1), some (.ref p2), some (.int (0 : Int32))]) (st2 := []) (g2 := q1) cdE_96 rfl ?_
  obtain ⟨e8, he8, h⟩ := Option.bind_eq_some_iff.mp h
  have hX9 : Ev Lx 96 cd_96 29 [] [] e8 (none, b) := by
    cases h
    exact ev_ret rfl rfl
  exact ev_wk (L := [some (.ref a0), some (.ref p0), some (.int p1), some (.ref p2), some (.int (0 : Int32))]) (lp_ind (P := (fun (s : (Int32 × M2)) => Ev Lx 96 cd_96 4 [some (.ref a0), some (.ref p0), some (.int p1), some (.ref p2), some (.int s.1)] [] s.2 (none, b))) (fun s s2 hs hP => tb_Pl_hearBy_4 a0 p0 p1 p2 ha0 hp0 hp2 s.1 s.2 (b := .inl s2) hs hP) (fun s hs => tb_Pl_hearBy_4 a0 p0 p1 p2 ha0 hp0 hp2 s.1 s.2 (b := .inr e8) hs hX9) _ _ he8) ⟨rfl, ⟨rfl, ⟨rfl, ⟨rfl, ⟨rfl, trivial⟩⟩⟩⟩⟩
def f_Nu_powerX (a0 : Nat) (g : M2) : Int64 := (((((((g.2 a0 0) * (g.2 a0 0)) + ((g.2 a0 1) * (g.2 a0 1))) + ((g.2 a0 2) * (g.2 a0 2))) + ((g.2 a0 3) * (g.2 a0 3))) + ((g.2 a0 0) * (g.2 a0 2))) + ((g.2 a0 1) * (g.2 a0 3)))
theorem e_Nu_powerX {Lx : Nat} (a0 : Nat) (ha0 : IsNum a0) (g : M2) {b : Int64} (h : f_Nu_powerX a0 g = b) : Ev Lx 97 cd_97 0 [some (.ref a0)] [] g (some (.long b), g) := by
  unfold f_Nu_powerX at h
  refine ev_rn (n := 1) (i2 := 1) (L2 := [some (.ref a0)]) (st2 := [.ref a0]) (g2 := g) cdE_97 rfl ?_
  refine ev_gf (v := .long (g.2 a0 0)) rfl ha0 (by decide) rfl ?_
  refine ev_rn (n := 1) (i2 := 3) (L2 := [some (.ref a0)]) (st2 := [.ref a0, .long (g.2 a0 0)]) (g2 := g) cdE_97 rfl ?_
  refine ev_gf (v := .long (g.2 a0 0)) rfl ha0 (by decide) rfl ?_
  refine ev_rn (n := 2) (i2 := 6) (L2 := [some (.ref a0)]) (st2 := [.ref a0, .long ((g.2 a0 0) * (g.2 a0 0))]) (g2 := g) cdE_97 rfl ?_
  refine ev_gf (v := .long (g.2 a0 1)) rfl ha0 (by decide) rfl ?_
  refine ev_rn (n := 1) (i2 := 8) (L2 := [some (.ref a0)]) (st2 := [.ref a0, .long (g.2 a0 1), .long ((g.2 a0 0) * (g.2 a0 0))]) (g2 := g) cdE_97 rfl ?_
  refine ev_gf (v := .long (g.2 a0 1)) rfl ha0 (by decide) rfl ?_
  refine ev_rn (n := 3) (i2 := 12) (L2 := [some (.ref a0)]) (st2 := [.ref a0, .long (((g.2 a0 0) * (g.2 a0 0)) + ((g.2 a0 1) * (g.2 a0 1)))]) (g2 := g) cdE_97 rfl ?_
  refine ev_gf (v := .long (g.2 a0 2)) rfl ha0 (by decide) rfl ?_
  refine ev_rn (n := 1) (i2 := 14) (L2 := [some (.ref a0)]) (st2 := [.ref a0, .long (g.2 a0 2), .long (((g.2 a0 0) * (g.2 a0 0)) + ((g.2 a0 1) * (g.2 a0 1)))]) (g2 := g) cdE_97 rfl ?_
  refine ev_gf (v := .long (g.2 a0 2)) rfl ha0 (by decide) rfl ?_
  refine ev_rn (n := 3) (i2 := 18) (L2 := [some (.ref a0)]) (st2 := [.ref a0, .long ((((g.2 a0 0) * (g.2 a0 0)) + ((g.2 a0 1) * (g.2 a0 1))) + ((g.2 a0 2) * (g.2 a0 2)))]) (g2 := g) cdE_97 rfl ?_
  refine ev_gf (v := .long (g.2 a0 3)) rfl ha0 (by decide) rfl ?_
  refine ev_rn (n := 1) (i2 := 20) (L2 := [some (.ref a0)]) (st2 := [.ref a0, .long (g.2 a0 3), .long ((((g.2 a0 0) * (g.2 a0 0)) + ((g.2 a0 1) * (g.2 a0 1))) + ((g.2 a0 2) * (g.2 a0 2)))]) (g2 := g) cdE_97 rfl ?_
  refine ev_gf (v := .long (g.2 a0 3)) rfl ha0 (by decide) rfl ?_
  refine ev_rn (n := 3) (i2 := 24) (L2 := [some (.ref a0)]) (st2 := [.ref a0, .long (((((g.2 a0 0) * (g.2 a0 0)) + ((g.2 a0 1) * (g.2 a0 1))) + ((g.2 a0 2) * (g.2 a0 2))) + ((g.2 a0 3) * (g.2 a0 3)))]) (g2 := g) cdE_97 rfl ?_
  refine ev_gf (v := .long (g.2 a0 0)) rfl ha0 (by decide) rfl ?_
  refine ev_rn (n := 1) (i2 := 26) (L2 := [some (.ref a0)]) (st2 := [.ref a0, .long (g.2 a0 0), .long (((((g.2 a0 0) * (g.2 a0 0)) + ((g.2 a0 1) * (g.2 a0 1))) + ((g.2 a0 2) * (g.2 a0 2))) + ((g.2 a0 3) * (g.2 a0 3)))]) (g2 := g) cdE_97 rfl ?_
  refine ev_gf (v := .long (g.2 a0 2)) rfl ha0 (by decide) rfl ?_
  refine ev_rn (n := 3) (i2 := 30) (L2 := [some (.ref a0)]) (st2 := [.ref a0, .long ((((((g.2 a0 0) * (g.2 a0 0)) + ((g.2 a0 1) * (g.2 a0 1))) + ((g.2 a0 2) * (g.2 a0 2))) + ((g.2 a0 3) * (g.2 a0 3))) + ((g.2 a0 0) * (g.2 a0 2)))]) (g2 := g) cdE_97 rfl ?_
  refine ev_gf (v := .long (g.2 a0 1)) rfl ha0 (by decide) rfl ?_
  refine ev_rn (n := 1) (i2 := 32) (L2 := [some (.ref a0)]) (st2 := [.ref a0, .long (g.2 a0 1), .long ((((((g.2 a0 0) * (g.2 a0 0)) + ((g.2 a0 1) * (g.2 a0 1))) + ((g.2 a0 2) * (g.2 a0 2))) + ((g.2 a0 3) * (g.2 a0 3))) + ((g.2 a0 0) * (g.2 a0 2)))]) (g2 := g) cdE_97 rfl ?_
  refine ev_gf (v := .long (g.2 a0 3)) rfl ha0 (by decide) rfl ?_
  refine ev_rn (n := 2) (i2 := 35) (L2 := [some (.ref a0)]) (st2 := [.long (((((((g.2 a0 0) * (g.2 a0 0)) + ((g.2 a0 1) * (g.2 a0 1))) + ((g.2 a0 2) * (g.2 a0 2))) + ((g.2 a0 3) * (g.2 a0 3))) + ((g.2 a0 0) * (g.2 a0 2))) + ((g.2 a0 1) * (g.2 a0 3)))]) (g2 := g) cdE_97 rfl ?_
  subst h
  exact ev_ret rfl rfl
def f_Nu_powerY (a0 : Nat) (g : M2) : Int64 := ((((g.2 a0 0) * (g.2 a0 1)) + ((g.2 a0 1) * (g.2 a0 2))) + ((g.2 a0 2) * (g.2 a0 3)))
theorem e_Nu_powerY {Lx : Nat} (a0 : Nat) (ha0 : IsNum a0) (g : M2) {b : Int64} (h : f_Nu_powerY a0 g = b) : Ev Lx 98 cd_98 0 [some (.ref a0)] [] g (some (.long b), g) := by
  unfold f_Nu_powerY at h
  refine ev_rn (n := 1) (i2 := 1) (L2 := [some (.ref a0)]) (st2 := [.ref a0]) (g2 := g) cdE_98 rfl ?_
  refine ev_gf (v := .long (g.2 a0 0)) rfl ha0 (by decide) rfl ?_
  refine ev_rn (n := 1) (i2 := 3) (L2 := [some (.ref a0)]) (st2 := [.ref a0, .long (g.2 a0 0)]) (g2 := g) cdE_98 rfl ?_
  refine ev_gf (v := .long (g.2 a0 1)) rfl ha0 (by decide) rfl ?_
  refine ev_rn (n := 2) (i2 := 6) (L2 := [some (.ref a0)]) (st2 := [.ref a0, .long ((g.2 a0 0) * (g.2 a0 1))]) (g2 := g) cdE_98 rfl ?_
  refine ev_gf (v := .long (g.2 a0 1)) rfl ha0 (by decide) rfl ?_
  refine ev_rn (n := 1) (i2 := 8) (L2 := [some (.ref a0)]) (st2 := [.ref a0, .long (g.2 a0 1), .long ((g.2 a0 0) * (g.2 a0 1))]) (g2 := g) cdE_98 rfl ?_
  refine ev_gf (v := .long (g.2 a0 2)) rfl ha0 (by decide) rfl ?_
  refine ev_rn (n := 3) (i2 := 12) (L2 := [some (.ref a0)]) (st2 := [.ref a0, .long (((g.2 a0 0) * (g.2 a0 1)) + ((g.2 a0 1) * (g.2 a0 2)))]) (g2 := g) cdE_98 rfl ?_
  refine ev_gf (v := .long (g.2 a0 2)) rfl ha0 (by decide) rfl ?_
  refine ev_rn (n := 1) (i2 := 14) (L2 := [some (.ref a0)]) (st2 := [.ref a0, .long (g.2 a0 2), .long (((g.2 a0 0) * (g.2 a0 1)) + ((g.2 a0 1) * (g.2 a0 2)))]) (g2 := g) cdE_98 rfl ?_
  refine ev_gf (v := .long (g.2 a0 3)) rfl ha0 (by decide) rfl ?_
  refine ev_rn (n := 2) (i2 := 17) (L2 := [some (.ref a0)]) (st2 := [.long ((((g.2 a0 0) * (g.2 a0 1)) + ((g.2 a0 1) * (g.2 a0 2))) + ((g.2 a0 2) * (g.2 a0 3)))]) (g2 := g) cdE_98 rfl ?_
  subst h
  exact ev_ret rfl rfl
def b_So_listen_2 (v0 : Nat) (v1 : Int32) (g : M2) : Option ((Int32 × M2) ⊕ M2) := (if (12 : Int32) ≤ v1 then some (.inr g) else (if inb v1 12 then ((f_Pl_hearBy (v0 + 1) (v0 + 43) v1 ((v0 + 49) + 1 + v1.toNatClampNeg) g).bind fun q3 => (if inb v1 12 then (if inb v1 12 then (bd (uJ q3 (v0 + 62) v1.toNatClampNeg (f_Nu_powerX ((v0 + 49) + 1 + v1.toNatClampNeg) q3)) fun g5 => (if inb v1 12 then (if inb v1 12 then (bd (uJ g5 (v0 + 63) v1.toNatClampNeg (f_Nu_powerY ((v0 + 49) + 1 + v1.toNatClampNeg) g5)) fun g7 => some (.inl ((v1 + (1 : Int32)), g7))) else none) else none)) else none) else none)) else none))
theorem tb_So_listen_2 {Lx : Nat} (v0 : Nat) (hv0 : IsSol v0) (v1 : Int32) (g : M2) {b : (Int32 × M2) ⊕ M2} {o : Option Value × M2} (h : b_So_listen_2 v0 v1 g = some b) (hb : Sum.elim (fun s => Ev Lx 99 cd_99 2 [some (.ref v0), some (.int s.1)] [] s.2 o) (fun e => Ev Lx 99 cd_99 35 [] [] e o) b) : Ev Lx 99 cd_99 2 [some (.ref v0), some (.int v1)] [] g o := by
  unfold b_So_listen_2 at h
  refine ev_rn (n := 2) (i2 := 4) (L2 := [some (.ref v0), some (.int v1)]) (st2 := [.int (12 : Int32), .int v1]) (g2 := g) cdE_99 rfl ?_
  by_cases hc1 : (12 : Int32) ≤ v1
  · rw [if_pos hc1] at h
    refine ev_ift cdE_99 rfl (cn_t hc1) ?_
    cases h
    exact ev_wk (L := []) hb trivial
  · rw [if_neg hc1] at h
    refine ev_iff rfl (cn_f hc1) ?_
    refine ev_rn (n := 1) (i2 := 6) (L2 := [some (.ref v0), some (.int v1)]) (st2 := [.ref v0]) (g2 := g) cdE_99 rfl ?_
    refine ev_gf (v := .ref (v0 + 1)) rfl (so_at hv0) (by decide) rfl ?_
    refine ev_rn (n := 1) (i2 := 8) (L2 := [some (.ref v0), some (.int v1)]) (st2 := [.ref v0, .ref (v0 + 1)]) (g2 := g) cdE_99 rfl ?_
    refine ev_gf (v := .ref (v0 + 43)) rfl (so_at hv0) (by decide) rfl ?_
    refine ev_rn (n := 2) (i2 := 11) (L2 := [some (.ref v0), some (.int v1)]) (st2 := [.ref v0, .int v1, .ref (v0 + 43), .ref (v0 + 1)]) (g2 := g) cdE_99 rfl ?_
    refine ev_gf (v := .ref (v0 + 49)) rfl (so_at hv0) (by decide) rfl ?_
    refine ev_rn (n := 1) (i2 := 13) (L2 := [some (.ref v0), some (.int v1)]) (st2 := [.int v1, .ref (v0 + 49), .int v1, .ref (v0 + 43), .ref (v0 + 1)]) (g2 := g) cdE_99 rfl ?_
    by_cases hi2 : inb v1 12
    · rw [if_pos hi2] at h
      refine ev_aaload (v := .ref ((v0 + 49) + 1 + v1.toNatClampNeg)) rfl (kd_of (na_at (so_49 hv0))) (by decide) hi2 (na_rf (w := (v0 + 49)) hi2.2) ?_
      obtain ⟨q3, hq3, h⟩ := Option.bind_eq_some_iff.mp h
      refine ev_call rfl cdE_96 (cokV rfl rfl (pl_at (so_1 hv0)) rfl) rfl rfl (e_Pl_hearBy (v0 + 1) (v0 + 43) v1 ((v0 + 49) + 1 + v1.toNatClampNeg) (so_1 hv0) (so_43 hv0) (na_el (so_49 hv0) hi2.2) g hq3) ?_
      refine ev_rn (n := 1) (i2 := 16) (L2 := [some (.ref v0), some (.int v1)]) (st2 := [.ref v0]) (g2 := q3) cdE_99 rfl ?_
      refine ev_gf (v := .ref (v0 + 62)) rfl (so_at hv0) (by decide) rfl ?_
      refine ev_rn (n := 2) (i2 := 19) (L2 := [some (.ref v0), some (.int v1)]) (st2 := [.ref v0, .int v1, .ref (v0 + 62)]) (g2 := q3) cdE_99 rfl ?_
      refine ev_gf (v := .ref (v0 + 49)) rfl (so_at hv0) (by decide) rfl ?_
      refine ev_rn (n := 1) (i2 := 21) (L2 := [some (.ref v0), some (.int v1)]) (st2 := [.int v1, .ref (v0 + 49), .int v1, .ref (v0 + 62)]) (g2 := q3) cdE_99 rfl ?_
      by_cases hi4 : inb v1 12
      · rw [if_pos hi4] at h
        refine ev_aaload (v := .ref ((v0 + 49) + 1 + v1.toNatClampNeg)) rfl (kd_of (na_at (so_49 hv0))) (by decide) hi4 (na_rf (w := (v0 + 49)) hi4.2) ?_
        refine ev_call rfl cdE_97 (cokV rfl rfl (na_el (so_49 hv0) hi4.2) rfl) rfl rfl (e_Nu_powerX ((v0 + 49) + 1 + v1.toNatClampNeg) (na_el (so_49 hv0) hi4.2) q3 rfl) ?_
        by_cases hi9 : inb v1 12
        · rw [if_pos hi9] at h
          refine bd_elim h (fun g5 hg5 h => ?_)
          refine ev_lastore (g2 := g5) rfl (so_62 hv0) (by decide) hi9 (by rw [hg5] <;> rfl) ?_
          refine ev_rn (n := 1) (i2 := 25) (L2 := [some (.ref v0), some (.int v1)]) (st2 := [.ref v0]) (g2 := g5) cdE_99 rfl ?_
          refine ev_gf (v := .ref (v0 + 63)) rfl (so_at hv0) (by decide) rfl ?_
          refine ev_rn (n := 2) (i2 := 28) (L2 := [some (.ref v0), some (.int v1)]) (st2 := [.ref v0, .int v1, .ref (v0 + 63)]) (g2 := g5) cdE_99 rfl ?_
          refine ev_gf (v := .ref (v0 + 49)) rfl (so_at hv0) (by decide) rfl ?_
          refine ev_rn (n := 1) (i2 := 30) (L2 := [some (.ref v0), some (.int v1)]) (st2 := [.int v1, .ref (v0 + 49), .int v1, .ref (v0 + 63)]) (g2 := g5) cdE_99 rfl ?_
          by_cases hi6 : inb v1 12
          · rw [if_pos hi6] at h
            refine ev_aaload (v := .ref ((v0 + 49) + 1 + v1.toNatClampNeg)) rfl (kd_of (na_at (so_49 hv0))) (by decide) hi6 (na_rf (w := (v0 + 49)) hi6.2) ?_
            refine ev_call rfl cdE_98 (cokV rfl rfl (na_el (so_49 hv0) hi6.2) rfl) rfl rfl (e_Nu_powerY ((v0 + 49) + 1 + v1.toNatClampNeg) (na_el (so_49 hv0) hi6.2) g5 rfl) ?_
            by_cases hi8 : inb v1 12
            · rw [if_pos hi8] at h
              refine bd_elim h (fun g7 hg7 h => ?_)
              refine ev_lastore (g2 := g7) rfl (so_63 hv0) (by decide) hi8 (by rw [hg7] <;> rfl) ?_
              refine ev_rn (n := 2) (i2 := 2) (L2 := [some (.ref v0), some (.int (v1 + (1 : Int32)))]) (st2 := []) (g2 := g7) cdE_99 rfl ?_
              cases h
              exact ev_wk (L := [some (.ref v0), some (.int (v1 + (1 : Int32)))]) hb ⟨rfl, ⟨rfl, trivial⟩⟩
            · rw [if_neg hi8] at h
              cases h
          · rw [if_neg hi6] at h
            cases h
        · rw [if_neg hi9] at h
          cases h
      · rw [if_neg hi4] at h
        cases h
    · rw [if_neg hi2] at h
      cases h
def f_So_listen (a0 : Nat) (g : M2) : Option (M2) := ((lp (fun s => b_So_listen_2 a0 s.1 s.2) 5000 ((0 : Int32), g)).bind fun e10 => some e10)
theorem e_So_listen {Lx : Nat} (a0 : Nat) (ha0 : IsSol a0) (g : M2) {b : M2} (h : f_So_listen a0 g = some b) : Ev Lx 99 cd_99 0 [some (.ref a0)] [] g (none, b) := by
  unfold f_So_listen at h
  refine ev_rn (n := 2) (i2 := 2) (L2 := [some (.ref a0), some (.int (0 : Int32))]) (st2 := []) (g2 := g) cdE_99 rfl ?_
  obtain ⟨e10, he10, h⟩ := Option.bind_eq_some_iff.mp h
  have hX11 : Ev Lx 99 cd_99 35 [] [] e10 (none, b) := by
    cases h
    exact ev_ret rfl rfl
  exact ev_wk (L := [some (.ref a0), some (.int (0 : Int32))]) (lp_ind (P := (fun (s : (Int32 × M2)) => Ev Lx 99 cd_99 2 [some (.ref a0), some (.int s.1)] [] s.2 (none, b))) (fun s s2 hs hP => tb_So_listen_2 a0 ha0 s.1 s.2 (b := .inl s2) hs hP) (fun s hs => tb_So_listen_2 a0 ha0 s.1 s.2 (b := .inr e10) hs hX11) _ _ he10) ⟨rfl, ⟨rfl, trivial⟩⟩
def f_Da_refresh  (g : M2) : Option (M2) := (if (g.1 0 9) = 0 then some g else ((f_So_solve 6 g).bind fun q2 => (if (q2.1 6 13) = 0 then (bd (uI q2 0 9 (0 : Int32)) fun g4 => some g4) else ((f_So_listen 6 q2).bind fun q5 => (bd (uI q5 0 9 (0 : Int32)) fun g6 => some g6)))))
theorem e_Da_refresh {Lx : Nat}   (g : M2) {b : M2} (h : f_Da_refresh  g = some b) : Ev Lx 100 cd_100 0 [some (.ref 0)] [] g (none, b) := by
  unfold f_Da_refresh at h
  refine ev_rn (n := 2) (i2 := 2) (L2 := [some (.ref 0)]) (st2 := [.int (g.1 0 9)]) (g2 := g) cdE_100 rfl ?_
  by_cases hc1 : (g.1 0 9) = 0
  · rw [if_pos hc1] at h
    refine ev_zft cdE_100 rfl (cn_t hc1) ?_
    cases h
    exact ev_ret rfl rfl
  · rw [if_neg hc1] at h
    refine ev_zff rfl (cn_f hc1) ?_
    refine ev_rn (n := 2) (i2 := 5) (L2 := [some (.ref 0)]) (st2 := [.ref 6]) (g2 := g) cdE_100 rfl ?_
    obtain ⟨q2, hq2, h⟩ := Option.bind_eq_some_iff.mp h
    refine ev_call rfl cdE_95 rfl rfl rfl (e_So_solve 6 (by decide) g hq2) ?_
    refine ev_rn (n := 3) (i2 := 9) (L2 := [some (.ref 0)]) (st2 := [.int (q2.1 6 13)]) (g2 := q2) cdE_100 rfl ?_
    by_cases hc3 : (q2.1 6 13) = 0
    · rw [if_pos hc3] at h
      refine ev_zft cdE_100 rfl (cn_t hc3) ?_
      refine ev_rn (n := 2) (i2 := 15) (L2 := [some (.ref 0)]) (st2 := [.int (0 : Int32), .ref 0]) (g2 := q2) cdE_100 rfl ?_
      refine bd_elim h (fun g4 hg4 h => ?_)
      refine ev_pf (g2 := g4) rfl (rfl : S0[0]? = some _) (by decide) (by rw [hg4] <;> rfl) ?_
      cases h
      exact ev_ret rfl rfl
    · rw [if_neg hc3] at h
      refine ev_zff rfl (cn_f hc3) ?_
      refine ev_rn (n := 2) (i2 := 12) (L2 := [some (.ref 0)]) (st2 := [.ref 6]) (g2 := q2) cdE_100 rfl ?_
      obtain ⟨q5, hq5, h⟩ := Option.bind_eq_some_iff.mp h
      refine ev_call rfl cdE_99 rfl rfl rfl (e_So_listen 6 (by decide) q2 hq5) ?_
      refine ev_rn (n := 2) (i2 := 15) (L2 := [some (.ref 0)]) (st2 := [.int (0 : Int32), .ref 0]) (g2 := q5) cdE_100 rfl ?_
      refine bd_elim h (fun g6 hg6 h => ?_)
      refine ev_pf (g2 := g6) rfl (rfl : S0[0]? = some _) (by decide) (by rw [hg6] <;> rfl) ?_
      cases h
      exact ev_ret rfl rfl
def f_Da_wish (p0 : Int32) (p1 : Int32) (g : M2) : Option (Int32 × M2) := ((f_Da_refresh g).bind fun q1 => (if (f_Da_isAmong p0 (q1.1 6 11) q1) = 0 then some ((-2 : Int32), q1) else (if (f_Da_isAmong p1 (2 : Int32) q1) = 0 then some ((-2 : Int32), q1) else (if p1 = 0 then (if inb p0 5 then some ((q1.1 10 p0.toNatClampNeg), q1) else none) else (if inb p0 5 then (if (q1.1 11 p0.toNatClampNeg) = 0 then some ((0 : Int32), q1) else some ((1 : Int32), q1)) else none)))))
theorem e_Da_wish {Lx : Nat} (p0 : Int32) (p1 : Int32)  (g : M2) {b : (Int32 × M2)} (h : f_Da_wish p0 p1 g = some b) : Ev Lx 101 cd_101 0 [some (.ref 0), some (.int p0), some (.int p1)] [] g (some (.int b.1), b.2) := by
  unfold f_Da_wish at h
  refine ev_rn (n := 1) (i2 := 1) (L2 := [some (.ref 0), some (.int p0), some (.int p1)]) (st2 := [.ref 0]) (g2 := g) cdE_101 rfl ?_
  obtain ⟨q1, hq1, h⟩ := Option.bind_eq_some_iff.mp h
  refine ev_call rfl cdE_100 rfl rfl rfl (e_Da_refresh   g hq1) ?_
  refine ev_rn (n := 4) (i2 := 6) (L2 := [some (.ref 0), some (.int p0), some (.int p1)]) (st2 := [.int (q1.1 6 11), .int p0]) (g2 := q1) cdE_101 rfl ?_
  refine ev_call rfl cdE_65 rfl rfl rfl (e_Da_isAmong p0 (q1.1 6 11)  q1 rfl) ?_
  by_cases hc2 : (f_Da_isAmong p0 (q1.1 6 11) q1) = 0
  · rw [if_pos hc2] at h
    refine ev_zft cdE_101 rfl (cn_t hc2) ?_
    refine ev_rn (n := 1) (i2 := 13) (L2 := [some (.ref 0), some (.int p0), some (.int p1)]) (st2 := [.int (-2 : Int32)]) (g2 := q1) cdE_101 rfl ?_
    cases h
    exact ev_ret rfl rfl
  · rw [if_neg hc2] at h
    refine ev_zff rfl (cn_f hc2) ?_
    refine ev_rn (n := 2) (i2 := 10) (L2 := [some (.ref 0), some (.int p0), some (.int p1)]) (st2 := [.int (2 : Int32), .int p1]) (g2 := q1) cdE_101 rfl ?_
    refine ev_call rfl cdE_65 rfl rfl rfl (e_Da_isAmong p1 (2 : Int32)  q1 rfl) ?_
    by_cases hc3 : (f_Da_isAmong p1 (2 : Int32) q1) = 0
    · rw [if_pos hc3] at h
      refine ev_zff rfl (cn_f (fun q => q hc3)) ?_
      refine ev_rn (n := 1) (i2 := 13) (L2 := [some (.ref 0), some (.int p0), some (.int p1)]) (st2 := [.int (-2 : Int32)]) (g2 := q1) cdE_101 rfl ?_
      cases h
      exact ev_ret rfl rfl
    · rw [if_neg hc3] at h
      refine ev_zft cdE_101 rfl (cn_t hc3) ?_
      refine ev_rn (n := 1) (i2 := 15) (L2 := [some (.ref 0), some (.int p0), some (.int p1)]) (st2 := [.int p1]) (g2 := q1) cdE_101 rfl ?_
      by_cases hc4 : p1 = 0
      · rw [if_pos hc4] at h
        refine ev_zff rfl (cn_f (fun q => q hc4)) ?_
        refine ev_rn (n := 4) (i2 := 20) (L2 := [some (.ref 0), some (.int p0), some (.int p1)]) (st2 := [.int p0, .ref 10]) (g2 := q1) cdE_101 rfl ?_
        by_cases hi7 : inb p0 5
        · rw [if_pos hi7] at h
          refine ev_iaload (v := .int (q1.1 10 p0.toNatClampNeg)) rfl (kd_of (show S0[10]? = some (100, 5, List.replicate 5 none) from rfl)) (by decide) hi7 rfl ?_
          cases h
          exact ev_ret rfl rfl
        · rw [if_neg hi7] at h
          cases h
      · rw [if_neg hc4] at h
        refine ev_zft cdE_101 rfl (cn_t hc4) ?_
        refine ev_rn (n := 4) (i2 := 26) (L2 := [some (.ref 0), some (.int p0), some (.int p1)]) (st2 := [.int p0, .ref 11]) (g2 := q1) cdE_101 rfl ?_
        by_cases hi5 : inb p0 5
        · rw [if_pos hi5] at h
          refine ev_baload (v := .int (q1.1 11 p0.toNatClampNeg)) rfl (kd_of (show S0[11]? = some (103, 5, List.replicate 5 none) from rfl)) (by decide) hi5 rfl ?_
          by_cases hc6 : (q1.1 11 p0.toNatClampNeg) = 0
          · rw [if_pos hc6] at h
            refine ev_zft cdE_101 rfl (cn_t hc6) ?_
            refine ev_rn (n := 1) (i2 := 31) (L2 := [some (.ref 0), some (.int p0), some (.int p1)]) (st2 := [.int (0 : Int32)]) (g2 := q1) cdE_101 rfl ?_
            cases h
            exact ev_ret rfl rfl
          · rw [if_neg hc6] at h
            refine ev_zff rfl (cn_f hc6) ?_
            refine ev_rn (n := 2) (i2 := 31) (L2 := [some (.ref 0), some (.int p0), some (.int p1)]) (st2 := [.int (1 : Int32)]) (g2 := q1) cdE_101 rfl ?_
            cases h
            exact ev_ret rfl rfl
        · rw [if_neg hi5] at h
          cases h
def b_Mo_laysElements_5 (v1 : Int32) (v2 : Int32) (g : M2) : Option ((Int32 × M2) ⊕ M2) := (if (g.1 160 1) ≤ v2 then some (.inr g) else (if inb v2 5 then (bd (uI g 166 v2.toNatClampNeg (-1 : Int32)) fun g3 => ((f_Mo_isBroken v2 g3).bind fun q4 => (if q4 = 0 then (if ((v1 >>> (v2 &&& 31)) &&& (1 : Int32)) = (1 : Int32) then some (.inl ((v2 + (1 : Int32)), g3)) else (if inb v2 5 then (bd (uI g3 166 v2.toNatClampNeg (g3.1 157 8)) fun g7 => (if inb ((2 : Int32) + v2) 19 then (if inb (g7.1 157 8) 5 then (bd (uI g7 162 (g7.1 157 8).toNatClampNeg (g7.1 160 ((2 : Int32) + v2).toNatClampNeg)) fun g9 => (bd (uI g9 157 8 ((g9.1 157 8) + (1 : Int32))) fun g10 => some (.inl ((v2 + (1 : Int32)), g10)))) else none) else none)) else none)) else some (.inl ((v2 + (1 : Int32)), g3))))) else none))
theorem tb_Mo_laysElements_5 {Lx : Nat} (v1 : Int32)  (v2 : Int32) (g : M2) {b : (Int32 × M2) ⊕ M2} {o : Option Value × M2} (h : b_Mo_laysElements_5 v1 v2 g = some b) (hb : Sum.elim (fun s => Ev Lx 102 cd_102 5 [some (.ref 157), some (.int v1), some (.int s.1)] [] s.2 o) (fun e => Ev Lx 102 cd_102 53 [] [] e o) b) : Ev Lx 102 cd_102 5 [some (.ref 157), some (.int v1), some (.int v2)] [] g o := by
  unfold b_Mo_laysElements_5 at h
  refine ev_rn (n := 4) (i2 := 9) (L2 := [some (.ref 157), some (.int v1), some (.int v2)]) (st2 := [.int (1 : Int32), .ref 160, .int v2]) (g2 := g) cdE_102 rfl ?_
  refine ev_iaload (v := .int (g.1 160 1)) rfl (kd_of (show S0[160]? = some (100, 19, List.replicate 19 none) from rfl)) (by decide) ⟨by decide, by decide⟩ rfl ?_
  by_cases hc2 : (g.1 160 1) ≤ v2
  · rw [if_pos hc2] at h
    refine ev_ift cdE_102 rfl (cn_t hc2) ?_
    cases h
    exact ev_wk (L := []) hb trivial
  · rw [if_neg hc2] at h
    refine ev_iff rfl (cn_f hc2) ?_
    refine ev_rn (n := 4) (i2 := 15) (L2 := [some (.ref 157), some (.int v1), some (.int v2)]) (st2 := [.int (-1 : Int32), .int v2, .ref 166]) (g2 := g) cdE_102 rfl ?_
    by_cases hi13 : inb v2 5
    · rw [if_pos hi13] at h
      refine bd_elim h (fun g3 hg3 h => ?_)
      refine ev_iastore (g2 := g3) rfl (show S0[166]? = some (100, 5, List.replicate 5 none) from rfl) (by decide) hi13 (by rw [hg3] <;> rfl) ?_
      refine ev_rn (n := 2) (i2 := 18) (L2 := [some (.ref 157), some (.int v1), some (.int v2)]) (st2 := [.int v2, .ref 157]) (g2 := g3) cdE_102 rfl ?_
      obtain ⟨q4, hq4, h⟩ := Option.bind_eq_some_iff.mp h
      refine ev_call rfl cdE_61 rfl rfl rfl (e_Mo_isBroken v2  g3 hq4) ?_
      by_cases hc5 : q4 = 0
      · rw [if_pos hc5] at h
        refine ev_zff rfl (cn_f (fun q => q hc5)) ?_
        refine ev_rn (n := 6) (i2 := 26) (L2 := [some (.ref 157), some (.int v1), some (.int v2)]) (st2 := [.int (1 : Int32), .int ((v1 >>> (v2 &&& 31)) &&& (1 : Int32))]) (g2 := g3) cdE_102 rfl ?_
        by_cases hc6 : ((v1 >>> (v2 &&& 31)) &&& (1 : Int32)) = (1 : Int32)
        · rw [if_pos hc6] at h
          refine ev_iff rfl (cn_f (fun q => q hc6)) ?_
          refine ev_rn (n := 3) (i2 := 5) (L2 := [some (.ref 157), some (.int v1), some (.int (v2 + (1 : Int32)))]) (st2 := []) (g2 := g3) cdE_102 rfl ?_
          cases h
          exact ev_wk (L := [some (.ref 157), some (.int v1), some (.int (v2 + (1 : Int32)))]) hb ⟨rfl, ⟨rfl, ⟨rfl, trivial⟩⟩⟩
        · rw [if_neg hc6] at h
          refine ev_ift cdE_102 rfl (cn_t hc6) ?_
          refine ev_rn (n := 5) (i2 := 33) (L2 := [some (.ref 157), some (.int v1), some (.int v2)]) (st2 := [.int (g3.1 157 8), .int v2, .ref 166]) (g2 := g3) cdE_102 rfl ?_
          by_cases hi12 : inb v2 5
          · rw [if_pos hi12] at h
            refine bd_elim h (fun g7 hg7 h => ?_)
            refine ev_iastore (g2 := g7) rfl (show S0[166]? = some (100, 5, List.replicate 5 none) from rfl) (by decide) hi12 (by rw [hg7] <;> rfl) ?_
            refine ev_rn (n := 9) (i2 := 43) (L2 := [some (.ref 157), some (.int v1), some (.int v2)]) (st2 := [.int ((2 : Int32) + v2), .ref 160, .int (g7.1 157 8), .ref 162]) (g2 := g7) cdE_102 rfl ?_
            by_cases hi8 : inb ((2 : Int32) + v2) 19
            · rw [if_pos hi8] at h
              refine ev_iaload (v := .int (g7.1 160 ((2 : Int32) + v2).toNatClampNeg)) rfl (kd_of (show S0[160]? = some (100, 19, List.replicate 19 none) from rfl)) (by decide) hi8 rfl ?_
              by_cases hi11 : inb (g7.1 157 8) 5
              · rw [if_pos hi11] at h
                refine bd_elim h (fun g9 hg9 h => ?_)
                refine ev_iastore (g2 := g9) rfl (show S0[162]? = some (100, 5, List.replicate 5 none) from rfl) (by decide) hi11 (by rw [hg9] <;> rfl) ?_
                refine ev_rn (n := 5) (i2 := 50) (L2 := [some (.ref 157), some (.int v1), some (.int v2)]) (st2 := [.int ((g9.1 157 8) + (1 : Int32)), .ref 157]) (g2 := g9) cdE_102 rfl ?_
                refine bd_elim h (fun g10 hg10 h => ?_)
                refine ev_pf (g2 := g10) rfl (rfl : S0[157]? = some _) (by decide) (by rw [hg10] <;> rfl) ?_
                refine ev_rn (n := 2) (i2 := 5) (L2 := [some (.ref 157), some (.int v1), some (.int (v2 + (1 : Int32)))]) (st2 := []) (g2 := g10) cdE_102 rfl ?_
                cases h
                exact ev_wk (L := [some (.ref 157), some (.int v1), some (.int (v2 + (1 : Int32)))]) hb ⟨rfl, ⟨rfl, ⟨rfl, trivial⟩⟩⟩
              · rw [if_neg hi11] at h
                cases h
            · rw [if_neg hi8] at h
              cases h
          · rw [if_neg hi12] at h
            cases h
      · rw [if_neg hc5] at h
        refine ev_zft cdE_102 rfl (cn_t hc5) ?_
        refine ev_rn (n := 2) (i2 := 5) (L2 := [some (.ref 157), some (.int v1), some (.int (v2 + (1 : Int32)))]) (st2 := []) (g2 := g3) cdE_102 rfl ?_
        cases h
        exact ev_wk (L := [some (.ref 157), some (.int v1), some (.int (v2 + (1 : Int32)))]) hb ⟨rfl, ⟨rfl, ⟨rfl, trivial⟩⟩⟩
    · rw [if_neg hi13] at h
      cases h
def f_Mo_laysElements (p0 : Int32) (g : M2) : Option (M2) := (bd (uI g 157 8 (0 : Int32)) fun g1 => ((lp (fun s => b_Mo_laysElements_5 p0 s.1 s.2) 5000 ((0 : Int32), g1)).bind fun e14 => some e14))
theorem e_Mo_laysElements {Lx : Nat} (p0 : Int32)  (g : M2) {b : M2} (h : f_Mo_laysElements p0 g = some b) : Ev Lx 102 cd_102 0 [some (.ref 157), some (.int p0)] [] g (none, b) := by
  unfold f_Mo_laysElements at h
  refine ev_rn (n := 2) (i2 := 2) (L2 := [some (.ref 157), some (.int p0)]) (st2 := [.int (0 : Int32), .ref 157]) (g2 := g) cdE_102 rfl ?_
  refine bd_elim h (fun g1 hg1 h => ?_)
  refine ev_pf (g2 := g1) rfl (rfl : S0[157]? = some _) (by decide) (by rw [hg1] <;> rfl) ?_
  refine ev_rn (n := 2) (i2 := 5) (L2 := [some (.ref 157), some (.int p0), some (.int (0 : Int32))]) (st2 := []) (g2 := g1) cdE_102 rfl ?_
  obtain ⟨e14, he14, h⟩ := Option.bind_eq_some_iff.mp h
  have hX15 : Ev Lx 102 cd_102 53 [] [] e14 (none, b) := by
    cases h
    exact ev_ret rfl rfl
  exact ev_wk (L := [some (.ref 157), some (.int p0), some (.int (0 : Int32))]) (lp_ind (P := (fun (s : (Int32 × M2)) => Ev Lx 102 cd_102 5 [some (.ref 157), some (.int p0), some (.int s.1)] [] s.2 (none, b))) (fun s s2 hs hP => tb_Mo_laysElements_5 p0  s.1 s.2 (b := .inl s2) hs hP) (fun s hs => tb_Mo_laysElements_5 p0  s.1 s.2 (b := .inr e14) hs hX15) _ _ he14) ⟨rfl, ⟨rfl, ⟨rfl, trivial⟩⟩⟩
