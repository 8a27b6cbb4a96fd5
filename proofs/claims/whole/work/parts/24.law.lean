def j_La_law_1241 (Lx : Nat) (v3 : Int32) (g : M2) : Option ((Int32 × M2) ⊕ (M2 ⊕ (Int32 × M2))) := (if inb (v3 + (1 : Int32)) Lx then ((f_Da_steps (g.1 1001 (v3 + (1 : Int32)).toNatClampNeg) g).bind fun q63 => (if inb (v3 + (1 : Int32)) Lx then ((f_Mo_steps (q63.2.1 1001 (v3 + (1 : Int32)).toNatClampNeg) q63.2).bind fun q65 => (if q63.1 = q65.1 then some (.inl ((v3 + (6 : Int32)), q65.2)) else some (.inr (.inr ((0 : Int32), q65.2))))) else none)) else none)
set_option maxRecDepth 100000 in
theorem tj_La_law_1241 {Lx : Nat}  (v3 : Int32)  (g : M2) {b : (Int32 × M2) ⊕ (M2 ⊕ (Int32 × M2))} {o : Option Value × M2} (h : j_La_law_1241 Lx v3 g = some b) (hb : Sum.elim (fun s => Ev Lx 303 cd_303 10 [some (.ref 1001), some (.ref 0), some (.ref 157), some (.int s.1)] [] s.2 o) (Sum.elim (fun e => Ev Lx 303 cd_303 1260 [] [] e o) (fun r => o = (some (.int r.1), r.2))) b) : Ev Lx 303 cd_303 1241 [some (.ref 1001), some (.ref 0), some (.ref 157), some (.int v3)] [] g o := by
  unfold j_La_law_1241 at h
  refine ev_rn (n := 5) (i2 := 1246) (L2 := [some (.ref 1001), some (.ref 0), some (.ref 157), some (.int v3)]) (st2 := [.int (v3 + (1 : Int32)), .ref 1001, .ref 0]) (g2 := g) cdE_303 rfl ?_
  by_cases hi62 : inb (v3 + (1 : Int32)) Lx
  · rw [if_pos hi62] at h
    refine ev_iaload (v := .int (g.1 1001 (v3 + (1 : Int32)).toNatClampNeg)) rfl rfl (by decide) hi62 rfl ?_
    obtain ⟨q63, hq63, h⟩ := Option.bind_eq_some_iff.mp h
    refine ev_call rfl cdE_301 rfl rfl rfl (e_Da_steps (g.1 1001 (v3 + (1 : Int32)).toNatClampNeg)  g hq63) ?_
    refine ev_rn (n := 5) (i2 := 1253) (L2 := [some (.ref 1001), some (.ref 0), some (.ref 157), some (.int v3)]) (st2 := [.int (v3 + (1 : Int32)), .ref 1001, .ref 157, .int q63.1]) (g2 := q63.2) cdE_303 rfl ?_
    by_cases hi64 : inb (v3 + (1 : Int32)) Lx
    · rw [if_pos hi64] at h
      refine ev_iaload (v := .int (q63.2.1 1001 (v3 + (1 : Int32)).toNatClampNeg)) rfl rfl (by decide) hi64 rfl ?_
      obtain ⟨q65, hq65, h⟩ := Option.bind_eq_some_iff.mp h
      refine ev_call rfl cdE_302 rfl rfl rfl (e_Mo_steps (q63.2.1 1001 (v3 + (1 : Int32)).toNatClampNeg)  q63.2 hq65) ?_
      by_cases hc66 : q63.1 = q65.1
      · rw [if_pos hc66] at h
        refine ev_ift cdE_303 rfl (cn_t hc66) ?_
        refine ev_rn (n := 2) (i2 := 10) (L2 := [some (.ref 1001), some (.ref 0), some (.ref 157), some (.int (v3 + (6 : Int32)))]) (st2 := []) (g2 := q65.2) cdE_303 rfl ?_
        cases h
        exact ev_wk (L := [some (.ref 1001), some (.ref 0), some (.ref 157), some (.int (v3 + (6 : Int32)))]) hb ⟨rfl, ⟨rfl, ⟨rfl, ⟨rfl, trivial⟩⟩⟩⟩
      · rw [if_neg hc66] at h
        refine ev_iff rfl (cn_f hc66) ?_
        refine ev_rn (n := 1) (i2 := 1257) (L2 := [some (.ref 1001), some (.ref 0), some (.ref 157), some (.int v3)]) (st2 := [.int (0 : Int32)]) (g2 := q65.2) cdE_303 rfl ?_
        cases h
        cases hb
        exact ev_ret rfl rt_0
    · rw [if_neg hi64] at h
      cases h
  · rw [if_neg hi62] at h
    cases h
def j_La_law_1224 (Lx : Nat) (v3 : Int32) (g : M2) : Option ((Int32 × M2) ⊕ (M2 ⊕ (Int32 × M2))) := (if inb (v3 + (1 : Int32)) Lx then ((f_Da_hear (g.1 1001 (v3 + (1 : Int32)).toNatClampNeg) g).bind fun q68 => (if inb (v3 + (1 : Int32)) Lx then ((f_Mo_hear (q68.2.1 1001 (v3 + (1 : Int32)).toNatClampNeg) q68.2).bind fun q70 => (if q68.1 = q70.1 then some (.inl ((v3 + (6 : Int32)), q70.2)) else some (.inr (.inr ((0 : Int32), q70.2))))) else none)) else none)
set_option maxRecDepth 100000 in
theorem tj_La_law_1224 {Lx : Nat}  (v3 : Int32)  (g : M2) {b : (Int32 × M2) ⊕ (M2 ⊕ (Int32 × M2))} {o : Option Value × M2} (h : j_La_law_1224 Lx v3 g = some b) (hb : Sum.elim (fun s => Ev Lx 303 cd_303 10 [some (.ref 1001), some (.ref 0), some (.ref 157), some (.int s.1)] [] s.2 o) (Sum.elim (fun e => Ev Lx 303 cd_303 1260 [] [] e o) (fun r => o = (some (.int r.1), r.2))) b) : Ev Lx 303 cd_303 1224 [some (.ref 1001), some (.ref 0), some (.ref 157), some (.int v3)] [] g o := by
  unfold j_La_law_1224 at h
  refine ev_rn (n := 5) (i2 := 1229) (L2 := [some (.ref 1001), some (.ref 0), some (.ref 157), some (.int v3)]) (st2 := [.int (v3 + (1 : Int32)), .ref 1001, .ref 0]) (g2 := g) cdE_303 rfl ?_
  by_cases hi67 : inb (v3 + (1 : Int32)) Lx
  · rw [if_pos hi67] at h
    refine ev_iaload (v := .int (g.1 1001 (v3 + (1 : Int32)).toNatClampNeg)) rfl rfl (by decide) hi67 rfl ?_
    obtain ⟨q68, hq68, h⟩ := Option.bind_eq_some_iff.mp h
    refine ev_call rfl cdE_299 rfl rfl rfl (e_Da_hear (g.1 1001 (v3 + (1 : Int32)).toNatClampNeg)  g hq68) ?_
    refine ev_rn (n := 5) (i2 := 1236) (L2 := [some (.ref 1001), some (.ref 0), some (.ref 157), some (.int v3)]) (st2 := [.int (v3 + (1 : Int32)), .ref 1001, .ref 157, .int q68.1]) (g2 := q68.2) cdE_303 rfl ?_
    by_cases hi69 : inb (v3 + (1 : Int32)) Lx
    · rw [if_pos hi69] at h
      refine ev_iaload (v := .int (q68.2.1 1001 (v3 + (1 : Int32)).toNatClampNeg)) rfl rfl (by decide) hi69 rfl ?_
      obtain ⟨q70, hq70, h⟩ := Option.bind_eq_some_iff.mp h
      refine ev_call rfl cdE_300 rfl rfl rfl (e_Mo_hear (q68.2.1 1001 (v3 + (1 : Int32)).toNatClampNeg)  q68.2 hq70) ?_
      by_cases hc71 : q68.1 = q70.1
      · rw [if_pos hc71] at h
        refine ev_ift cdE_303 rfl (cn_t hc71) ?_
        refine ev_rn (n := 2) (i2 := 10) (L2 := [some (.ref 1001), some (.ref 0), some (.ref 157), some (.int (v3 + (6 : Int32)))]) (st2 := []) (g2 := q70.2) cdE_303 rfl ?_
        cases h
        exact ev_wk (L := [some (.ref 1001), some (.ref 0), some (.ref 157), some (.int (v3 + (6 : Int32)))]) hb ⟨rfl, ⟨rfl, ⟨rfl, ⟨rfl, trivial⟩⟩⟩⟩
      · rw [if_neg hc71] at h
        refine ev_iff rfl (cn_f hc71) ?_
        refine ev_rn (n := 1) (i2 := 1240) (L2 := [some (.ref 1001), some (.ref 0), some (.ref 157), some (.int v3)]) (st2 := [.int (0 : Int32)]) (g2 := q70.2) cdE_303 rfl ?_
        cases h
        cases hb
        exact ev_ret rfl rt_0
    · rw [if_neg hi69] at h
      cases h
  · rw [if_neg hi67] at h
    cases h
def j_La_law_1207 (Lx : Nat) (v3 : Int32) (g : M2) : Option ((Int32 × M2) ⊕ (M2 ⊕ (Int32 × M2))) := (if inb (v3 + (1 : Int32)) Lx then ((f_Da_deaf (g.1 1001 (v3 + (1 : Int32)).toNatClampNeg) g).bind fun q73 => (if inb (v3 + (1 : Int32)) Lx then ((f_Mo_deaf (q73.2.1 1001 (v3 + (1 : Int32)).toNatClampNeg) q73.2).bind fun q75 => (if q73.1 = q75.1 then some (.inl ((v3 + (6 : Int32)), q75.2)) else some (.inr (.inr ((0 : Int32), q75.2))))) else none)) else none)
set_option maxRecDepth 100000 in
theorem tj_La_law_1207 {Lx : Nat}  (v3 : Int32)  (g : M2) {b : (Int32 × M2) ⊕ (M2 ⊕ (Int32 × M2))} {o : Option Value × M2} (h : j_La_law_1207 Lx v3 g = some b) (hb : Sum.elim (fun s => Ev Lx 303 cd_303 10 [some (.ref 1001), some (.ref 0), some (.ref 157), some (.int s.1)] [] s.2 o) (Sum.elim (fun e => Ev Lx 303 cd_303 1260 [] [] e o) (fun r => o = (some (.int r.1), r.2))) b) : Ev Lx 303 cd_303 1207 [some (.ref 1001), some (.ref 0), some (.ref 157), some (.int v3)] [] g o := by
  unfold j_La_law_1207 at h
  refine ev_rn (n := 5) (i2 := 1212) (L2 := [some (.ref 1001), some (.ref 0), some (.ref 157), some (.int v3)]) (st2 := [.int (v3 + (1 : Int32)), .ref 1001, .ref 0]) (g2 := g) cdE_303 rfl ?_
  by_cases hi72 : inb (v3 + (1 : Int32)) Lx
  · rw [if_pos hi72] at h
    refine ev_iaload (v := .int (g.1 1001 (v3 + (1 : Int32)).toNatClampNeg)) rfl rfl (by decide) hi72 rfl ?_
    obtain ⟨q73, hq73, h⟩ := Option.bind_eq_some_iff.mp h
    refine ev_call rfl cdE_297 rfl rfl rfl (e_Da_deaf (g.1 1001 (v3 + (1 : Int32)).toNatClampNeg)  g hq73) ?_
    refine ev_rn (n := 5) (i2 := 1219) (L2 := [some (.ref 1001), some (.ref 0), some (.ref 157), some (.int v3)]) (st2 := [.int (v3 + (1 : Int32)), .ref 1001, .ref 157, .int q73.1]) (g2 := q73.2) cdE_303 rfl ?_
    by_cases hi74 : inb (v3 + (1 : Int32)) Lx
    · rw [if_pos hi74] at h
      refine ev_iaload (v := .int (q73.2.1 1001 (v3 + (1 : Int32)).toNatClampNeg)) rfl rfl (by decide) hi74 rfl ?_
      obtain ⟨q75, hq75, h⟩ := Option.bind_eq_some_iff.mp h
      refine ev_call rfl cdE_298 rfl rfl rfl (e_Mo_deaf (q73.2.1 1001 (v3 + (1 : Int32)).toNatClampNeg)  q73.2 hq75) ?_
      by_cases hc76 : q73.1 = q75.1
      · rw [if_pos hc76] at h
        refine ev_ift cdE_303 rfl (cn_t hc76) ?_
        refine ev_rn (n := 2) (i2 := 10) (L2 := [some (.ref 1001), some (.ref 0), some (.ref 157), some (.int (v3 + (6 : Int32)))]) (st2 := []) (g2 := q75.2) cdE_303 rfl ?_
        cases h
        exact ev_wk (L := [some (.ref 1001), some (.ref 0), some (.ref 157), some (.int (v3 + (6 : Int32)))]) hb ⟨rfl, ⟨rfl, ⟨rfl, ⟨rfl, trivial⟩⟩⟩⟩
      · rw [if_neg hc76] at h
        refine ev_iff rfl (cn_f hc76) ?_
        refine ev_rn (n := 1) (i2 := 1223) (L2 := [some (.ref 1001), some (.ref 0), some (.ref 157), some (.int v3)]) (st2 := [.int (0 : Int32)]) (g2 := q75.2) cdE_303 rfl ?_
        cases h
        cases hb
        exact ev_ret rfl rt_0
    · rw [if_neg hi74] at h
      cases h
  · rw [if_neg hi72] at h
    cases h
def j_La_law_1190 (Lx : Nat) (v3 : Int32) (g : M2) : Option ((Int32 × M2) ⊕ (M2 ⊕ (Int32 × M2))) := (if inb (v3 + (1 : Int32)) Lx then ((f_Da_look (g.1 1001 (v3 + (1 : Int32)).toNatClampNeg) g).bind fun q78 => (if inb (v3 + (1 : Int32)) Lx then ((f_Mo_look (q78.2.1 1001 (v3 + (1 : Int32)).toNatClampNeg) q78.2).bind fun q80 => (if q78.1 = q80.1 then some (.inl ((v3 + (6 : Int32)), q80.2)) else some (.inr (.inr ((0 : Int32), q80.2))))) else none)) else none)
set_option maxRecDepth 100000 in
theorem tj_La_law_1190 {Lx : Nat}  (v3 : Int32)  (g : M2) {b : (Int32 × M2) ⊕ (M2 ⊕ (Int32 × M2))} {o : Option Value × M2} (h : j_La_law_1190 Lx v3 g = some b) (hb : Sum.elim (fun s => Ev Lx 303 cd_303 10 [some (.ref 1001), some (.ref 0), some (.ref 157), some (.int s.1)] [] s.2 o) (Sum.elim (fun e => Ev Lx 303 cd_303 1260 [] [] e o) (fun r => o = (some (.int r.1), r.2))) b) : Ev Lx 303 cd_303 1190 [some (.ref 1001), some (.ref 0), some (.ref 157), some (.int v3)] [] g o := by
  unfold j_La_law_1190 at h
  refine ev_rn (n := 5) (i2 := 1195) (L2 := [some (.ref 1001), some (.ref 0), some (.ref 157), some (.int v3)]) (st2 := [.int (v3 + (1 : Int32)), .ref 1001, .ref 0]) (g2 := g) cdE_303 rfl ?_
  by_cases hi77 : inb (v3 + (1 : Int32)) Lx
  · rw [if_pos hi77] at h
    refine ev_iaload (v := .int (g.1 1001 (v3 + (1 : Int32)).toNatClampNeg)) rfl rfl (by decide) hi77 rfl ?_
    obtain ⟨q78, hq78, h⟩ := Option.bind_eq_some_iff.mp h
    refine ev_call rfl cdE_293 rfl rfl rfl (e_Da_look (g.1 1001 (v3 + (1 : Int32)).toNatClampNeg)  g hq78) ?_
    refine ev_rn (n := 5) (i2 := 1202) (L2 := [some (.ref 1001), some (.ref 0), some (.ref 157), some (.int v3)]) (st2 := [.int (v3 + (1 : Int32)), .ref 1001, .ref 157, .int q78.1]) (g2 := q78.2) cdE_303 rfl ?_
    by_cases hi79 : inb (v3 + (1 : Int32)) Lx
    · rw [if_pos hi79] at h
      refine ev_iaload (v := .int (q78.2.1 1001 (v3 + (1 : Int32)).toNatClampNeg)) rfl rfl (by decide) hi79 rfl ?_
      obtain ⟨q80, hq80, h⟩ := Option.bind_eq_some_iff.mp h
      refine ev_call rfl cdE_296 rfl rfl rfl (e_Mo_look (q78.2.1 1001 (v3 + (1 : Int32)).toNatClampNeg)  q78.2 hq80) ?_
      by_cases hc81 : q78.1 = q80.1
      · rw [if_pos hc81] at h
        refine ev_ift cdE_303 rfl (cn_t hc81) ?_
        refine ev_rn (n := 2) (i2 := 10) (L2 := [some (.ref 1001), some (.ref 0), some (.ref 157), some (.int (v3 + (6 : Int32)))]) (st2 := []) (g2 := q80.2) cdE_303 rfl ?_
        cases h
        exact ev_wk (L := [some (.ref 1001), some (.ref 0), some (.ref 157), some (.int (v3 + (6 : Int32)))]) hb ⟨rfl, ⟨rfl, ⟨rfl, ⟨rfl, trivial⟩⟩⟩⟩
      · rw [if_neg hc81] at h
        refine ev_iff rfl (cn_f hc81) ?_
        refine ev_rn (n := 1) (i2 := 1206) (L2 := [some (.ref 1001), some (.ref 0), some (.ref 157), some (.int v3)]) (st2 := [.int (0 : Int32)]) (g2 := q80.2) cdE_303 rfl ?_
        cases h
        cases hb
        exact ev_ret rfl rt_0
    · rw [if_neg hi79] at h
      cases h
  · rw [if_neg hi77] at h
    cases h
def j_La_law_1163 (Lx : Nat) (v3 : Int32) (g : M2) : Option ((Int32 × M2) ⊕ (M2 ⊕ (Int32 × M2))) := (if inb (v3 + (1 : Int32)) Lx then (if inb (v3 + (2 : Int32)) Lx then ((f_Da_moves (g.1 1001 (v3 + (1 : Int32)).toNatClampNeg) (g.1 1001 (v3 + (2 : Int32)).toNatClampNeg) g).bind fun q84 => (if inb (v3 + (1 : Int32)) Lx then (if inb (v3 + (2 : Int32)) Lx then ((f_Mo_moves (q84.2.1 1001 (v3 + (1 : Int32)).toNatClampNeg) (q84.2.1 1001 (v3 + (2 : Int32)).toNatClampNeg) q84.2).bind fun q87 => (if q84.1 = q87.1 then some (.inl ((v3 + (6 : Int32)), q87.2)) else some (.inr (.inr ((0 : Int32), q87.2))))) else none) else none)) else none) else none)
set_option maxRecDepth 100000 in
theorem tj_La_law_1163 {Lx : Nat}  (v3 : Int32)  (g : M2) {b : (Int32 × M2) ⊕ (M2 ⊕ (Int32 × M2))} {o : Option Value × M2} (h : j_La_law_1163 Lx v3 g = some b) (hb : Sum.elim (fun s => Ev Lx 303 cd_303 10 [some (.ref 1001), some (.ref 0), some (.ref 157), some (.int s.1)] [] s.2 o) (Sum.elim (fun e => Ev Lx 303 cd_303 1260 [] [] e o) (fun r => o = (some (.int r.1), r.2))) b) : Ev Lx 303 cd_303 1163 [some (.ref 1001), some (.ref 0), some (.ref 157), some (.int v3)] [] g o := by
  unfold j_La_law_1163 at h
  refine ev_rn (n := 5) (i2 := 1168) (L2 := [some (.ref 1001), some (.ref 0), some (.ref 157), some (.int v3)]) (st2 := [.int (v3 + (1 : Int32)), .ref 1001, .ref 0]) (g2 := g) cdE_303 rfl ?_
  by_cases hi82 : inb (v3 + (1 : Int32)) Lx
  · rw [if_pos hi82] at h
    refine ev_iaload (v := .int (g.1 1001 (v3 + (1 : Int32)).toNatClampNeg)) rfl rfl (by decide) hi82 rfl ?_
    refine ev_rn (n := 4) (i2 := 1173) (L2 := [some (.ref 1001), some (.ref 0), some (.ref 157), some (.int v3)]) (st2 := [.int (v3 + (2 : Int32)), .ref 1001, .int (g.1 1001 (v3 + (1 : Int32)).toNatClampNeg), .ref 0]) (g2 := g) cdE_303 rfl ?_
    by_cases hi83 : inb (v3 + (2 : Int32)) Lx
    · rw [if_pos hi83] at h
      refine ev_iaload (v := .int (g.1 1001 (v3 + (2 : Int32)).toNatClampNeg)) rfl rfl (by decide) hi83 rfl ?_
      obtain ⟨q84, hq84, h⟩ := Option.bind_eq_some_iff.mp h
      refine ev_call rfl cdE_290 rfl rfl rfl (e_Da_moves (g.1 1001 (v3 + (1 : Int32)).toNatClampNeg) (g.1 1001 (v3 + (2 : Int32)).toNatClampNeg)  g hq84) ?_
      refine ev_rn (n := 5) (i2 := 1180) (L2 := [some (.ref 1001), some (.ref 0), some (.ref 157), some (.int v3)]) (st2 := [.int (v3 + (1 : Int32)), .ref 1001, .ref 157, .int q84.1]) (g2 := q84.2) cdE_303 rfl ?_
      by_cases hi85 : inb (v3 + (1 : Int32)) Lx
      · rw [if_pos hi85] at h
        refine ev_iaload (v := .int (q84.2.1 1001 (v3 + (1 : Int32)).toNatClampNeg)) rfl rfl (by decide) hi85 rfl ?_
        refine ev_rn (n := 4) (i2 := 1185) (L2 := [some (.ref 1001), some (.ref 0), some (.ref 157), some (.int v3)]) (st2 := [.int (v3 + (2 : Int32)), .ref 1001, .int (q84.2.1 1001 (v3 + (1 : Int32)).toNatClampNeg), .ref 157, .int q84.1]) (g2 := q84.2) cdE_303 rfl ?_
        by_cases hi86 : inb (v3 + (2 : Int32)) Lx
        · rw [if_pos hi86] at h
          refine ev_iaload (v := .int (q84.2.1 1001 (v3 + (2 : Int32)).toNatClampNeg)) rfl rfl (by decide) hi86 rfl ?_
          obtain ⟨q87, hq87, h⟩ := Option.bind_eq_some_iff.mp h
          refine ev_call rfl cdE_291 rfl rfl rfl (e_Mo_moves (q84.2.1 1001 (v3 + (1 : Int32)).toNatClampNeg) (q84.2.1 1001 (v3 + (2 : Int32)).toNatClampNeg)  q84.2 hq87) ?_
          by_cases hc88 : q84.1 = q87.1
          · rw [if_pos hc88] at h
            refine ev_ift cdE_303 rfl (cn_t hc88) ?_
            refine ev_rn (n := 2) (i2 := 10) (L2 := [some (.ref 1001), some (.ref 0), some (.ref 157), some (.int (v3 + (6 : Int32)))]) (st2 := []) (g2 := q87.2) cdE_303 rfl ?_
            cases h
            exact ev_wk (L := [some (.ref 1001), some (.ref 0), some (.ref 157), some (.int (v3 + (6 : Int32)))]) hb ⟨rfl, ⟨rfl, ⟨rfl, ⟨rfl, trivial⟩⟩⟩⟩
          · rw [if_neg hc88] at h
            refine ev_iff rfl (cn_f hc88) ?_
            refine ev_rn (n := 1) (i2 := 1189) (L2 := [some (.ref 1001), some (.ref 0), some (.ref 157), some (.int v3)]) (st2 := [.int (0 : Int32)]) (g2 := q87.2) cdE_303 rfl ?_
            cases h
            cases hb
            exact ev_ret rfl rt_0
        · rw [if_neg hi86] at h
          cases h
      · rw [if_neg hi85] at h
        cases h
    · rw [if_neg hi83] at h
      cases h
  · rw [if_neg hi82] at h
    cases h
def j_La_law_1146 (Lx : Nat) (v3 : Int32) (g : M2) : Option ((Int32 × M2) ⊕ (M2 ⊕ (Int32 × M2))) := (if inb (v3 + (1 : Int32)) Lx then ((f_Da_mends (g.1 1001 (v3 + (1 : Int32)).toNatClampNeg) g).bind fun q90 => (if inb (v3 + (1 : Int32)) Lx then ((f_Mo_mends (q90.2.1 1001 (v3 + (1 : Int32)).toNatClampNeg) q90.2).bind fun q92 => (if q90.1 = q92.1 then some (.inl ((v3 + (6 : Int32)), q92.2)) else some (.inr (.inr ((0 : Int32), q92.2))))) else none)) else none)
set_option maxRecDepth 100000 in
theorem tj_La_law_1146 {Lx : Nat}  (v3 : Int32)  (g : M2) {b : (Int32 × M2) ⊕ (M2 ⊕ (Int32 × M2))} {o : Option Value × M2} (h : j_La_law_1146 Lx v3 g = some b) (hb : Sum.elim (fun s => Ev Lx 303 cd_303 10 [some (.ref 1001), some (.ref 0), some (.ref 157), some (.int s.1)] [] s.2 o) (Sum.elim (fun e => Ev Lx 303 cd_303 1260 [] [] e o) (fun r => o = (some (.int r.1), r.2))) b) : Ev Lx 303 cd_303 1146 [some (.ref 1001), some (.ref 0), some (.ref 157), some (.int v3)] [] g o := by
  unfold j_La_law_1146 at h
  refine ev_rn (n := 5) (i2 := 1151) (L2 := [some (.ref 1001), some (.ref 0), some (.ref 157), some (.int v3)]) (st2 := [.int (v3 + (1 : Int32)), .ref 1001, .ref 0]) (g2 := g) cdE_303 rfl ?_
  by_cases hi89 : inb (v3 + (1 : Int32)) Lx
  · rw [if_pos hi89] at h
    refine ev_iaload (v := .int (g.1 1001 (v3 + (1 : Int32)).toNatClampNeg)) rfl rfl (by decide) hi89 rfl ?_
    obtain ⟨q90, hq90, h⟩ := Option.bind_eq_some_iff.mp h
    refine ev_call rfl cdE_288 rfl rfl rfl (e_Da_mends (g.1 1001 (v3 + (1 : Int32)).toNatClampNeg)  g hq90) ?_
    refine ev_rn (n := 5) (i2 := 1158) (L2 := [some (.ref 1001), some (.ref 0), some (.ref 157), some (.int v3)]) (st2 := [.int (v3 + (1 : Int32)), .ref 1001, .ref 157, .int q90.1]) (g2 := q90.2) cdE_303 rfl ?_
    by_cases hi91 : inb (v3 + (1 : Int32)) Lx
    · rw [if_pos hi91] at h
      refine ev_iaload (v := .int (q90.2.1 1001 (v3 + (1 : Int32)).toNatClampNeg)) rfl rfl (by decide) hi91 rfl ?_
      obtain ⟨q92, hq92, h⟩ := Option.bind_eq_some_iff.mp h
      refine ev_call rfl cdE_289 rfl rfl rfl (e_Mo_mends (q90.2.1 1001 (v3 + (1 : Int32)).toNatClampNeg)  q90.2 hq92) ?_
      by_cases hc93 : q90.1 = q92.1
      · rw [if_pos hc93] at h
        refine ev_ift cdE_303 rfl (cn_t hc93) ?_
        refine ev_rn (n := 2) (i2 := 10) (L2 := [some (.ref 1001), some (.ref 0), some (.ref 157), some (.int (v3 + (6 : Int32)))]) (st2 := []) (g2 := q92.2) cdE_303 rfl ?_
        cases h
        exact ev_wk (L := [some (.ref 1001), some (.ref 0), some (.ref 157), some (.int (v3 + (6 : Int32)))]) hb ⟨rfl, ⟨rfl, ⟨rfl, ⟨rfl, trivial⟩⟩⟩⟩
      · rw [if_neg hc93] at h
        refine ev_iff rfl (cn_f hc93) ?_
        refine ev_rn (n := 1) (i2 := 1162) (L2 := [some (.ref 1001), some (.ref 0), some (.ref 157), some (.int v3)]) (st2 := [.int (0 : Int32)]) (g2 := q92.2) cdE_303 rfl ?_
        cases h
        cases hb
        exact ev_ret rfl rt_0
    · rw [if_neg hi91] at h
      cases h
  · rw [if_neg hi89] at h
    cases h
def j_La_law_1129 (Lx : Nat) (v3 : Int32) (g : M2) : Option ((Int32 × M2) ⊕ (M2 ⊕ (Int32 × M2))) := (if inb (v3 + (1 : Int32)) Lx then ((f_Da_breaks (g.1 1001 (v3 + (1 : Int32)).toNatClampNeg) g).bind fun q95 => (if inb (v3 + (1 : Int32)) Lx then ((f_Mo_breaks (q95.2.1 1001 (v3 + (1 : Int32)).toNatClampNeg) q95.2).bind fun q97 => (if q95.1 = q97.1 then some (.inl ((v3 + (6 : Int32)), q97.2)) else some (.inr (.inr ((0 : Int32), q97.2))))) else none)) else none)
set_option maxRecDepth 100000 in
theorem tj_La_law_1129 {Lx : Nat}  (v3 : Int32)  (g : M2) {b : (Int32 × M2) ⊕ (M2 ⊕ (Int32 × M2))} {o : Option Value × M2} (h : j_La_law_1129 Lx v3 g = some b) (hb : Sum.elim (fun s => Ev Lx 303 cd_303 10 [some (.ref 1001), some (.ref 0), some (.ref 157), some (.int s.1)] [] s.2 o) (Sum.elim (fun e => Ev Lx 303 cd_303 1260 [] [] e o) (fun r => o = (some (.int r.1), r.2))) b) : Ev Lx 303 cd_303 1129 [some (.ref 1001), some (.ref 0), some (.ref 157), some (.int v3)] [] g o := by
  unfold j_La_law_1129 at h
  refine ev_rn (n := 5) (i2 := 1134) (L2 := [some (.ref 1001), some (.ref 0), some (.ref 157), some (.int v3)]) (st2 := [.int (v3 + (1 : Int32)), .ref 1001, .ref 0]) (g2 := g) cdE_303 rfl ?_
  by_cases hi94 : inb (v3 + (1 : Int32)) Lx
  · rw [if_pos hi94] at h
    refine ev_iaload (v := .int (g.1 1001 (v3 + (1 : Int32)).toNatClampNeg)) rfl rfl (by decide) hi94 rfl ?_
    obtain ⟨q95, hq95, h⟩ := Option.bind_eq_some_iff.mp h
    refine ev_call rfl cdE_286 rfl rfl rfl (e_Da_breaks (g.1 1001 (v3 + (1 : Int32)).toNatClampNeg)  g hq95) ?_
    refine ev_rn (n := 5) (i2 := 1141) (L2 := [some (.ref 1001), some (.ref 0), some (.ref 157), some (.int v3)]) (st2 := [.int (v3 + (1 : Int32)), .ref 1001, .ref 157, .int q95.1]) (g2 := q95.2) cdE_303 rfl ?_
    by_cases hi96 : inb (v3 + (1 : Int32)) Lx
    · rw [if_pos hi96] at h
      refine ev_iaload (v := .int (q95.2.1 1001 (v3 + (1 : Int32)).toNatClampNeg)) rfl rfl (by decide) hi96 rfl ?_
      obtain ⟨q97, hq97, h⟩ := Option.bind_eq_some_iff.mp h
      refine ev_call rfl cdE_287 rfl rfl rfl (e_Mo_breaks (q95.2.1 1001 (v3 + (1 : Int32)).toNatClampNeg)  q95.2 hq97) ?_
      by_cases hc98 : q95.1 = q97.1
      · rw [if_pos hc98] at h
        refine ev_ift cdE_303 rfl (cn_t hc98) ?_
        refine ev_rn (n := 2) (i2 := 10) (L2 := [some (.ref 1001), some (.ref 0), some (.ref 157), some (.int (v3 + (6 : Int32)))]) (st2 := []) (g2 := q97.2) cdE_303 rfl ?_
        cases h
        exact ev_wk (L := [some (.ref 1001), some (.ref 0), some (.ref 157), some (.int (v3 + (6 : Int32)))]) hb ⟨rfl, ⟨rfl, ⟨rfl, ⟨rfl, trivial⟩⟩⟩⟩
      · rw [if_neg hc98] at h
        refine ev_iff rfl (cn_f hc98) ?_
        refine ev_rn (n := 1) (i2 := 1145) (L2 := [some (.ref 1001), some (.ref 0), some (.ref 157), some (.int v3)]) (st2 := [.int (0 : Int32)]) (g2 := q97.2) cdE_303 rfl ?_
        cases h
        cases hb
        exact ev_ret rfl rt_0
    · rw [if_neg hi96] at h
      cases h
  · rw [if_neg hi94] at h
    cases h
def j_La_law_1112 (Lx : Nat) (v3 : Int32) (g : M2) : Option ((Int32 × M2) ⊕ (M2 ⊕ (Int32 × M2))) := (if inb (v3 + (1 : Int32)) Lx then ((f_Da_octet (g.1 1001 (v3 + (1 : Int32)).toNatClampNeg) g).bind fun q100 => (if inb (v3 + (1 : Int32)) Lx then ((f_Mo_octet (g.1 1001 (v3 + (1 : Int32)).toNatClampNeg) g).bind fun q102 => (if q100 = q102 then some (.inl ((v3 + (6 : Int32)), g)) else some (.inr (.inr ((0 : Int32), g))))) else none)) else none)
set_option maxRecDepth 100000 in
theorem tj_La_law_1112 {Lx : Nat}  (v3 : Int32)  (g : M2) {b : (Int32 × M2) ⊕ (M2 ⊕ (Int32 × M2))} {o : Option Value × M2} (h : j_La_law_1112 Lx v3 g = some b) (hb : Sum.elim (fun s => Ev Lx 303 cd_303 10 [some (.ref 1001), some (.ref 0), some (.ref 157), some (.int s.1)] [] s.2 o) (Sum.elim (fun e => Ev Lx 303 cd_303 1260 [] [] e o) (fun r => o = (some (.int r.1), r.2))) b) : Ev Lx 303 cd_303 1112 [some (.ref 1001), some (.ref 0), some (.ref 157), some (.int v3)] [] g o := by
  unfold j_La_law_1112 at h
  refine ev_rn (n := 5) (i2 := 1117) (L2 := [some (.ref 1001), some (.ref 0), some (.ref 157), some (.int v3)]) (st2 := [.int (v3 + (1 : Int32)), .ref 1001, .ref 0]) (g2 := g) cdE_303 rfl ?_
  by_cases hi99 : inb (v3 + (1 : Int32)) Lx
  · rw [if_pos hi99] at h
    refine ev_iaload (v := .int (g.1 1001 (v3 + (1 : Int32)).toNatClampNeg)) rfl rfl (by decide) hi99 rfl ?_
    obtain ⟨q100, hq100, h⟩ := Option.bind_eq_some_iff.mp h
    refine ev_call rfl cdE_284 rfl rfl rfl (e_Da_octet (g.1 1001 (v3 + (1 : Int32)).toNatClampNeg)  g hq100) ?_
    refine ev_rn (n := 5) (i2 := 1124) (L2 := [some (.ref 1001), some (.ref 0), some (.ref 157), some (.int v3)]) (st2 := [.int (v3 + (1 : Int32)), .ref 1001, .ref 157, .int q100]) (g2 := g) cdE_303 rfl ?_
    by_cases hi101 : inb (v3 + (1 : Int32)) Lx
    · rw [if_pos hi101] at h
      refine ev_iaload (v := .int (g.1 1001 (v3 + (1 : Int32)).toNatClampNeg)) rfl rfl (by decide) hi101 rfl ?_
      obtain ⟨q102, hq102, h⟩ := Option.bind_eq_some_iff.mp h
      refine ev_call rfl cdE_285 rfl rfl rfl (e_Mo_octet (g.1 1001 (v3 + (1 : Int32)).toNatClampNeg)  g hq102) ?_
      by_cases hc103 : q100 = q102
      · rw [if_pos hc103] at h
        refine ev_ift cdE_303 rfl (cn_t hc103) ?_
        refine ev_rn (n := 2) (i2 := 10) (L2 := [some (.ref 1001), some (.ref 0), some (.ref 157), some (.int (v3 + (6 : Int32)))]) (st2 := []) (g2 := g) cdE_303 rfl ?_
        cases h
        exact ev_wk (L := [some (.ref 1001), some (.ref 0), some (.ref 157), some (.int (v3 + (6 : Int32)))]) hb ⟨rfl, ⟨rfl, ⟨rfl, ⟨rfl, trivial⟩⟩⟩⟩
      · rw [if_neg hc103] at h
        refine ev_iff rfl (cn_f hc103) ?_
        refine ev_rn (n := 1) (i2 := 1128) (L2 := [some (.ref 1001), some (.ref 0), some (.ref 157), some (.int v3)]) (st2 := [.int (0 : Int32)]) (g2 := g) cdE_303 rfl ?_
        cases h
        cases hb
        exact ev_ret rfl rt_0
    · rw [if_neg hi101] at h
      cases h
  · rw [if_neg hi99] at h
    cases h
def j_La_law_1095 (Lx : Nat) (v3 : Int32) (g : M2) : Option ((Int32 × M2) ⊕ (M2 ⊕ (Int32 × M2))) := (if inb (v3 + (1 : Int32)) Lx then ((f_Da_tell (g.1 1001 (v3 + (1 : Int32)).toNatClampNeg) g).bind fun q105 => (if inb (v3 + (1 : Int32)) Lx then ((f_Mo_tell (q105.2.1 1001 (v3 + (1 : Int32)).toNatClampNeg) q105.2).bind fun q107 => (if q105.1 = q107.1 then some (.inl ((v3 + (6 : Int32)), q107.2)) else some (.inr (.inr ((0 : Int32), q107.2))))) else none)) else none)
set_option maxRecDepth 100000 in
theorem tj_La_law_1095 {Lx : Nat}  (v3 : Int32)  (g : M2) {b : (Int32 × M2) ⊕ (M2 ⊕ (Int32 × M2))} {o : Option Value × M2} (h : j_La_law_1095 Lx v3 g = some b) (hb : Sum.elim (fun s => Ev Lx 303 cd_303 10 [some (.ref 1001), some (.ref 0), some (.ref 157), some (.int s.1)] [] s.2 o) (Sum.elim (fun e => Ev Lx 303 cd_303 1260 [] [] e o) (fun r => o = (some (.int r.1), r.2))) b) : Ev Lx 303 cd_303 1095 [some (.ref 1001), some (.ref 0), some (.ref 157), some (.int v3)] [] g o := by
  unfold j_La_law_1095 at h
  refine ev_rn (n := 5) (i2 := 1100) (L2 := [some (.ref 1001), some (.ref 0), some (.ref 157), some (.int v3)]) (st2 := [.int (v3 + (1 : Int32)), .ref 1001, .ref 0]) (g2 := g) cdE_303 rfl ?_
  by_cases hi104 : inb (v3 + (1 : Int32)) Lx
  · rw [if_pos hi104] at h
    refine ev_iaload (v := .int (g.1 1001 (v3 + (1 : Int32)).toNatClampNeg)) rfl rfl (by decide) hi104 rfl ?_
    obtain ⟨q105, hq105, h⟩ := Option.bind_eq_some_iff.mp h
    refine ev_call rfl cdE_280 rfl rfl rfl (e_Da_tell (g.1 1001 (v3 + (1 : Int32)).toNatClampNeg)  g hq105) ?_
    refine ev_rn (n := 5) (i2 := 1107) (L2 := [some (.ref 1001), some (.ref 0), some (.ref 157), some (.int v3)]) (st2 := [.int (v3 + (1 : Int32)), .ref 1001, .ref 157, .int q105.1]) (g2 := q105.2) cdE_303 rfl ?_
    by_cases hi106 : inb (v3 + (1 : Int32)) Lx
    · rw [if_pos hi106] at h
      refine ev_iaload (v := .int (q105.2.1 1001 (v3 + (1 : Int32)).toNatClampNeg)) rfl rfl (by decide) hi106 rfl ?_
      obtain ⟨q107, hq107, h⟩ := Option.bind_eq_some_iff.mp h
      refine ev_call rfl cdE_283 rfl rfl rfl (e_Mo_tell (q105.2.1 1001 (v3 + (1 : Int32)).toNatClampNeg)  q105.2 hq107) ?_
      by_cases hc108 : q105.1 = q107.1
      · rw [if_pos hc108] at h
        refine ev_ift cdE_303 rfl (cn_t hc108) ?_
        refine ev_rn (n := 2) (i2 := 10) (L2 := [some (.ref 1001), some (.ref 0), some (.ref 157), some (.int (v3 + (6 : Int32)))]) (st2 := []) (g2 := q107.2) cdE_303 rfl ?_
        cases h
        exact ev_wk (L := [some (.ref 1001), some (.ref 0), some (.ref 157), some (.int (v3 + (6 : Int32)))]) hb ⟨rfl, ⟨rfl, ⟨rfl, ⟨rfl, trivial⟩⟩⟩⟩
      · rw [if_neg hc108] at h
        refine ev_iff rfl (cn_f hc108) ?_
        refine ev_rn (n := 1) (i2 := 1111) (L2 := [some (.ref 1001), some (.ref 0), some (.ref 157), some (.int v3)]) (st2 := [.int (0 : Int32)]) (g2 := q107.2) cdE_303 rfl ?_
        cases h
        cases hb
        exact ev_ret rfl rt_0
    · rw [if_neg hi106] at h
      cases h
  · rw [if_neg hi104] at h
    cases h
def j_La_law_1037 (Lx : Nat) (v3 : Int32) (g : M2) : Option ((Int32 × M2) ⊕ (M2 ⊕ (Int32 × M2))) := (if inb (v3 + (1 : Int32)) Lx then (if inb (v3 + (2 : Int32)) Lx then (if inb (v3 + (3 : Int32)) Lx then (if inb (v3 + (4 : Int32)) Lx then (if inb (v3 + (5 : Int32)) Lx then ((f_Da_both (g.1 1001 (v3 + (1 : Int32)).toNatClampNeg) (g.1 1001 (v3 + (2 : Int32)).toNatClampNeg) (g.1 1001 (v3 + (3 : Int32)).toNatClampNeg) (g.1 1001 (v3 + (4 : Int32)).toNatClampNeg) (g.1 1001 (v3 + (5 : Int32)).toNatClampNeg) g).bind fun q114 => (if inb (v3 + (1 : Int32)) Lx then (if inb (v3 + (2 : Int32)) Lx then (if inb (v3 + (3 : Int32)) Lx then (if inb (v3 + (4 : Int32)) Lx then (if inb (v3 + (5 : Int32)) Lx then ((f_Mo_both (q114.2.1 1001 (v3 + (1 : Int32)).toNatClampNeg) (q114.2.1 1001 (v3 + (2 : Int32)).toNatClampNeg) (q114.2.1 1001 (v3 + (3 : Int32)).toNatClampNeg) (q114.2.1 1001 (v3 + (4 : Int32)).toNatClampNeg) (q114.2.1 1001 (v3 + (5 : Int32)).toNatClampNeg) q114.2).bind fun q120 => (if q114.1 = q120.1 then some (.inl ((v3 + (6 : Int32)), q120.2)) else some (.inr (.inr ((0 : Int32), q120.2))))) else none) else none) else none) else none) else none)) else none) else none) else none) else none) else none)
set_option maxRecDepth 100000 in
theorem tj_La_law_1037 {Lx : Nat}  (v3 : Int32)  (g : M2) {b : (Int32 × M2) ⊕ (M2 ⊕ (Int32 × M2))} {o : Option Value × M2} (h : j_La_law_1037 Lx v3 g = some b) (hb : Sum.elim (fun s => Ev Lx 303 cd_303 10 [some (.ref 1001), some (.ref 0), some (.ref 157), some (.int s.1)] [] s.2 o) (Sum.elim (fun e => Ev Lx 303 cd_303 1260 [] [] e o) (fun r => o = (some (.int r.1), r.2))) b) : Ev Lx 303 cd_303 1037 [some (.ref 1001), some (.ref 0), some (.ref 157), some (.int v3)] [] g o := by
  unfold j_La_law_1037 at h
  refine ev_rn (n := 5) (i2 := 1042) (L2 := [some (.ref 1001), some (.ref 0), some (.ref 157), some (.int v3)]) (st2 := [.int (v3 + (1 : Int32)), .ref 1001, .ref 0]) (g2 := g) cdE_303 rfl ?_
  by_cases hi109 : inb (v3 + (1 : Int32)) Lx
  · rw [if_pos hi109] at h
    refine ev_iaload (v := .int (g.1 1001 (v3 + (1 : Int32)).toNatClampNeg)) rfl rfl (by decide) hi109 rfl ?_
    refine ev_rn (n := 4) (i2 := 1047) (L2 := [some (.ref 1001), some (.ref 0), some (.ref 157), some (.int v3)]) (st2 := [.int (v3 + (2 : Int32)), .ref 1001, .int (g.1 1001 (v3 + (1 : Int32)).toNatClampNeg), .ref 0]) (g2 := g) cdE_303 rfl ?_
    by_cases hi110 : inb (v3 + (2 : Int32)) Lx
    · rw [if_pos hi110] at h
      refine ev_iaload (v := .int (g.1 1001 (v3 + (2 : Int32)).toNatClampNeg)) rfl rfl (by decide) hi110 rfl ?_
      refine ev_rn (n := 4) (i2 := 1052) (L2 := [some (.ref 1001), some (.ref 0), some (.ref 157), some (.int v3)]) (st2 := [.int (v3 + (3 : Int32)), .ref 1001, .int (g.1 1001 (v3 + (2 : Int32)).toNatClampNeg), .int (g.1 1001 (v3 + (1 : Int32)).toNatClampNeg), .ref 0]) (g2 := g) cdE_303 rfl ?_
      by_cases hi111 : inb (v3 + (3 : Int32)) Lx
      · rw [if_pos hi111] at h
        refine ev_iaload (v := .int (g.1 1001 (v3 + (3 : Int32)).toNatClampNeg)) rfl rfl (by decide) hi111 rfl ?_
        refine ev_rn (n := 4) (i2 := 1057) (L2 := [some (.ref 1001), some (.ref 0), some (.ref 157), some (.int v3)]) (st2 := [.int (v3 + (4 : Int32)), .ref 1001, .int (g.1 1001 (v3 + (3 : Int32)).toNatClampNeg), .int (g.1 1001 (v3 + (2 : Int32)).toNatClampNeg), .int (g.1 1001 (v3 + (1 : Int32)).toNatClampNeg), .ref 0]) (g2 := g) cdE_303 rfl ?_
        by_cases hi112 : inb (v3 + (4 : Int32)) Lx
        · rw [if_pos hi112] at h
          refine ev_iaload (v := .int (g.1 1001 (v3 + (4 : Int32)).toNatClampNeg)) rfl rfl (by decide) hi112 rfl ?_
          refine ev_rn (n := 4) (i2 := 1062) (L2 := [some (.ref 1001), some (.ref 0), some (.ref 157), some (.int v3)]) (st2 := [.int (v3 + (5 : Int32)), .ref 1001, .int (g.1 1001 (v3 + (4 : Int32)).toNatClampNeg), .int (g.1 1001 (v3 + (3 : Int32)).toNatClampNeg), .int (g.1 1001 (v3 + (2 : Int32)).toNatClampNeg), .int (g.1 1001 (v3 + (1 : Int32)).toNatClampNeg), .ref 0]) (g2 := g) cdE_303 rfl ?_
          by_cases hi113 : inb (v3 + (5 : Int32)) Lx
          · rw [if_pos hi113] at h
            refine ev_iaload (v := .int (g.1 1001 (v3 + (5 : Int32)).toNatClampNeg)) rfl rfl (by decide) hi113 rfl ?_
            obtain ⟨q114, hq114, h⟩ := Option.bind_eq_some_iff.mp h
            refine ev_call rfl cdE_274 rfl rfl rfl (e_Da_both (g.1 1001 (v3 + (1 : Int32)).toNatClampNeg) (g.1 1001 (v3 + (2 : Int32)).toNatClampNeg) (g.1 1001 (v3 + (3 : Int32)).toNatClampNeg) (g.1 1001 (v3 + (4 : Int32)).toNatClampNeg) (g.1 1001 (v3 + (5 : Int32)).toNatClampNeg)  g hq114) ?_
            refine ev_rn (n := 5) (i2 := 1069) (L2 := [some (.ref 1001), some (.ref 0), some (.ref 157), some (.int v3)]) (st2 := [.int (v3 + (1 : Int32)), .ref 1001, .ref 157, .long q114.1]) (g2 := q114.2) cdE_303 rfl ?_
            by_cases hi115 : inb (v3 + (1 : Int32)) Lx
            · rw [if_pos hi115] at h
              refine ev_iaload (v := .int (q114.2.1 1001 (v3 + (1 : Int32)).toNatClampNeg)) rfl rfl (by decide) hi115 rfl ?_
              refine ev_rn (n := 4) (i2 := 1074) (L2 := [some (.ref 1001), some (.ref 0), some (.ref 157), some (.int v3)]) (st2 := [.int (v3 + (2 : Int32)), .ref 1001, .int (q114.2.1 1001 (v3 + (1 : Int32)).toNatClampNeg), .ref 157, .long q114.1]) (g2 := q114.2) cdE_303 rfl ?_
              by_cases hi116 : inb (v3 + (2 : Int32)) Lx
              · rw [if_pos hi116] at h
                refine ev_iaload (v := .int (q114.2.1 1001 (v3 + (2 : Int32)).toNatClampNeg)) rfl rfl (by decide) hi116 rfl ?_
                refine ev_rn (n := 4) (i2 := 1079) (L2 := [some (.ref 1001), some (.ref 0), some (.ref 157), some (.int v3)]) (st2 := [.int (v3 + (3 : Int32)), .ref 1001, .int (q114.2.1 1001 (v3 + (2 : Int32)).toNatClampNeg), .int (q114.2.1 1001 (v3 + (1 : Int32)).toNatClampNeg), .ref 157, .long q114.1]) (g2 := q114.2) cdE_303 rfl ?_
                by_cases hi117 : inb (v3 + (3 : Int32)) Lx
                · rw [if_pos hi117] at h
                  refine ev_iaload (v := .int (q114.2.1 1001 (v3 + (3 : Int32)).toNatClampNeg)) rfl rfl (by decide) hi117 rfl ?_
                  refine ev_rn (n := 4) (i2 := 1084) (L2 := [some (.ref 1001), some (.ref 0), some (.ref 157), some (.int v3)]) (st2 := [.int (v3 + (4 : Int32)), .ref 1001, .int (q114.2.1 1001 (v3 + (3 : Int32)).toNatClampNeg), .int (q114.2.1 1001 (v3 + (2 : Int32)).toNatClampNeg), .int (q114.2.1 1001 (v3 + (1 : Int32)).toNatClampNeg), .ref 157, .long q114.1]) (g2 := q114.2) cdE_303 rfl ?_
                  by_cases hi118 : inb (v3 + (4 : Int32)) Lx
                  · rw [if_pos hi118] at h
                    refine ev_iaload (v := .int (q114.2.1 1001 (v3 + (4 : Int32)).toNatClampNeg)) rfl rfl (by decide) hi118 rfl ?_
                    refine ev_rn (n := 4) (i2 := 1089) (L2 := [some (.ref 1001), some (.ref 0), some (.ref 157), some (.int v3)]) (st2 := [.int (v3 + (5 : Int32)), .ref 1001, .int (q114.2.1 1001 (v3 + (4 : Int32)).toNatClampNeg), .int (q114.2.1 1001 (v3 + (3 : Int32)).toNatClampNeg), .int (q114.2.1 1001 (v3 + (2 : Int32)).toNatClampNeg), .int (q114.2.1 1001 (v3 + (1 : Int32)).toNatClampNeg), .ref 157, .long q114.1]) (g2 := q114.2) cdE_303 rfl ?_
                    by_cases hi119 : inb (v3 + (5 : Int32)) Lx
                    · rw [if_pos hi119] at h
                      refine ev_iaload (v := .int (q114.2.1 1001 (v3 + (5 : Int32)).toNatClampNeg)) rfl rfl (by decide) hi119 rfl ?_
                      obtain ⟨q120, hq120, h⟩ := Option.bind_eq_some_iff.mp h
                      refine ev_call rfl cdE_275 rfl rfl rfl (e_Mo_both (q114.2.1 1001 (v3 + (1 : Int32)).toNatClampNeg) (q114.2.1 1001 (v3 + (2 : Int32)).toNatClampNeg) (q114.2.1 1001 (v3 + (3 : Int32)).toNatClampNeg) (q114.2.1 1001 (v3 + (4 : Int32)).toNatClampNeg) (q114.2.1 1001 (v3 + (5 : Int32)).toNatClampNeg)  q114.2 hq120) ?_
                      refine ev_rn (n := 1) (i2 := 1092) (L2 := [some (.ref 1001), some (.ref 0), some (.ref 157), some (.int v3)]) (st2 := [.int (lg_cmp q114.1 q120.1)]) (g2 := q120.2) cdE_303 rfl ?_
                      by_cases hc121 : q114.1 = q120.1
                      · rw [if_pos hc121] at h
                        refine ev_zft cdE_303 rfl (lc_eq_t hc121) ?_
                        refine ev_rn (n := 2) (i2 := 10) (L2 := [some (.ref 1001), some (.ref 0), some (.ref 157), some (.int (v3 + (6 : Int32)))]) (st2 := []) (g2 := q120.2) cdE_303 rfl ?_
                        cases h
                        exact ev_wk (L := [some (.ref 1001), some (.ref 0), some (.ref 157), some (.int (v3 + (6 : Int32)))]) hb ⟨rfl, ⟨rfl, ⟨rfl, ⟨rfl, trivial⟩⟩⟩⟩
                      · rw [if_neg hc121] at h
                        refine ev_zff rfl (lc_eq_f hc121) ?_
                        refine ev_rn (n := 1) (i2 := 1094) (L2 := [some (.ref 1001), some (.ref 0), some (.ref 157), some (.int v3)]) (st2 := [.int (0 : Int32)]) (g2 := q120.2) cdE_303 rfl ?_
                        cases h
                        cases hb
                        exact ev_ret rfl rt_0
                    · rw [if_neg hi119] at h
                      cases h
                  · rw [if_neg hi118] at h
                    cases h
                · rw [if_neg hi117] at h
                  cases h
              · rw [if_neg hi116] at h
                cases h
            · rw [if_neg hi115] at h
              cases h
          · rw [if_neg hi113] at h
            cases h
        · rw [if_neg hi112] at h
          cases h
      · rw [if_neg hi111] at h
        cases h
    · rw [if_neg hi110] at h
      cases h
  · rw [if_neg hi109] at h
    cases h
def j_La_law_1020 (Lx : Nat) (v3 : Int32) (g : M2) : Option ((Int32 × M2) ⊕ (M2 ⊕ (Int32 × M2))) := (if inb (v3 + (1 : Int32)) Lx then ((f_Da_better (g.1 1001 (v3 + (1 : Int32)).toNatClampNeg) g).bind fun q123 => (if inb (v3 + (1 : Int32)) Lx then ((f_Mo_better (q123.2.1 1001 (v3 + (1 : Int32)).toNatClampNeg) q123.2).bind fun q125 => (if q123.1 = q125.1 then some (.inl ((v3 + (6 : Int32)), q125.2)) else some (.inr (.inr ((0 : Int32), q125.2))))) else none)) else none)
set_option maxRecDepth 100000 in
theorem tj_La_law_1020 {Lx : Nat}  (v3 : Int32)  (g : M2) {b : (Int32 × M2) ⊕ (M2 ⊕ (Int32 × M2))} {o : Option Value × M2} (h : j_La_law_1020 Lx v3 g = some b) (hb : Sum.elim (fun s => Ev Lx 303 cd_303 10 [some (.ref 1001), some (.ref 0), some (.ref 157), some (.int s.1)] [] s.2 o) (Sum.elim (fun e => Ev Lx 303 cd_303 1260 [] [] e o) (fun r => o = (some (.int r.1), r.2))) b) : Ev Lx 303 cd_303 1020 [some (.ref 1001), some (.ref 0), some (.ref 157), some (.int v3)] [] g o := by
  unfold j_La_law_1020 at h
  refine ev_rn (n := 5) (i2 := 1025) (L2 := [some (.ref 1001), some (.ref 0), some (.ref 157), some (.int v3)]) (st2 := [.int (v3 + (1 : Int32)), .ref 1001, .ref 0]) (g2 := g) cdE_303 rfl ?_
  by_cases hi122 : inb (v3 + (1 : Int32)) Lx
  · rw [if_pos hi122] at h
    refine ev_iaload (v := .int (g.1 1001 (v3 + (1 : Int32)).toNatClampNeg)) rfl rfl (by decide) hi122 rfl ?_
    obtain ⟨q123, hq123, h⟩ := Option.bind_eq_some_iff.mp h
    refine ev_call rfl cdE_270 rfl rfl rfl (e_Da_better (g.1 1001 (v3 + (1 : Int32)).toNatClampNeg)  g hq123) ?_
    refine ev_rn (n := 5) (i2 := 1032) (L2 := [some (.ref 1001), some (.ref 0), some (.ref 157), some (.int v3)]) (st2 := [.int (v3 + (1 : Int32)), .ref 1001, .ref 157, .int q123.1]) (g2 := q123.2) cdE_303 rfl ?_
    by_cases hi124 : inb (v3 + (1 : Int32)) Lx
    · rw [if_pos hi124] at h
      refine ev_iaload (v := .int (q123.2.1 1001 (v3 + (1 : Int32)).toNatClampNeg)) rfl rfl (by decide) hi124 rfl ?_
      obtain ⟨q125, hq125, h⟩ := Option.bind_eq_some_iff.mp h
      refine ev_call rfl cdE_272 rfl rfl rfl (e_Mo_better (q123.2.1 1001 (v3 + (1 : Int32)).toNatClampNeg)  q123.2 hq125) ?_
      by_cases hc126 : q123.1 = q125.1
      · rw [if_pos hc126] at h
        refine ev_ift cdE_303 rfl (cn_t hc126) ?_
        refine ev_rn (n := 2) (i2 := 10) (L2 := [some (.ref 1001), some (.ref 0), some (.ref 157), some (.int (v3 + (6 : Int32)))]) (st2 := []) (g2 := q125.2) cdE_303 rfl ?_
        cases h
        exact ev_wk (L := [some (.ref 1001), some (.ref 0), some (.ref 157), some (.int (v3 + (6 : Int32)))]) hb ⟨rfl, ⟨rfl, ⟨rfl, ⟨rfl, trivial⟩⟩⟩⟩
      · rw [if_neg hc126] at h
        refine ev_iff rfl (cn_f hc126) ?_
        refine ev_rn (n := 1) (i2 := 1036) (L2 := [some (.ref 1001), some (.ref 0), some (.ref 157), some (.int v3)]) (st2 := [.int (0 : Int32)]) (g2 := q125.2) cdE_303 rfl ?_
        cases h
        cases hb
        exact ev_ret rfl rt_0
    · rw [if_neg hi124] at h
      cases h
  · rw [if_neg hi122] at h
    cases h
def j_La_law_993 (Lx : Nat) (v3 : Int32) (g : M2) : Option ((Int32 × M2) ⊕ (M2 ⊕ (Int32 × M2))) := (if inb (v3 + (1 : Int32)) Lx then (if inb (v3 + (2 : Int32)) Lx then ((f_Da_placed (g.1 1001 (v3 + (1 : Int32)).toNatClampNeg) (g.1 1001 (v3 + (2 : Int32)).toNatClampNeg) g).bind fun q129 => (if inb (v3 + (1 : Int32)) Lx then (if inb (v3 + (2 : Int32)) Lx then ((f_Mo_placed (q129.2.1 1001 (v3 + (1 : Int32)).toNatClampNeg) (q129.2.1 1001 (v3 + (2 : Int32)).toNatClampNeg) q129.2).bind fun q132 => (if q129.1 = q132.1 then some (.inl ((v3 + (6 : Int32)), q132.2)) else some (.inr (.inr ((0 : Int32), q132.2))))) else none) else none)) else none) else none)
set_option maxRecDepth 100000 in
theorem tj_La_law_993 {Lx : Nat}  (v3 : Int32)  (g : M2) {b : (Int32 × M2) ⊕ (M2 ⊕ (Int32 × M2))} {o : Option Value × M2} (h : j_La_law_993 Lx v3 g = some b) (hb : Sum.elim (fun s => Ev Lx 303 cd_303 10 [some (.ref 1001), some (.ref 0), some (.ref 157), some (.int s.1)] [] s.2 o) (Sum.elim (fun e => Ev Lx 303 cd_303 1260 [] [] e o) (fun r => o = (some (.int r.1), r.2))) b) : Ev Lx 303 cd_303 993 [some (.ref 1001), some (.ref 0), some (.ref 157), some (.int v3)] [] g o := by
  unfold j_La_law_993 at h
  refine ev_rn (n := 5) (i2 := 998) (L2 := [some (.ref 1001), some (.ref 0), some (.ref 157), some (.int v3)]) (st2 := [.int (v3 + (1 : Int32)), .ref 1001, .ref 0]) (g2 := g) cdE_303 rfl ?_
  by_cases hi127 : inb (v3 + (1 : Int32)) Lx
  · rw [if_pos hi127] at h
    refine ev_iaload (v := .int (g.1 1001 (v3 + (1 : Int32)).toNatClampNeg)) rfl rfl (by decide) hi127 rfl ?_
    refine ev_rn (n := 4) (i2 := 1003) (L2 := [some (.ref 1001), some (.ref 0), some (.ref 157), some (.int v3)]) (st2 := [.int (v3 + (2 : Int32)), .ref 1001, .int (g.1 1001 (v3 + (1 : Int32)).toNatClampNeg), .ref 0]) (g2 := g) cdE_303 rfl ?_
    by_cases hi128 : inb (v3 + (2 : Int32)) Lx
    · rw [if_pos hi128] at h
      refine ev_iaload (v := .int (g.1 1001 (v3 + (2 : Int32)).toNatClampNeg)) rfl rfl (by decide) hi128 rfl ?_
      obtain ⟨q129, hq129, h⟩ := Option.bind_eq_some_iff.mp h
      refine ev_call rfl cdE_268 rfl rfl rfl (e_Da_placed (g.1 1001 (v3 + (1 : Int32)).toNatClampNeg) (g.1 1001 (v3 + (2 : Int32)).toNatClampNeg)  g hq129) ?_
      refine ev_rn (n := 5) (i2 := 1010) (L2 := [some (.ref 1001), some (.ref 0), some (.ref 157), some (.int v3)]) (st2 := [.int (v3 + (1 : Int32)), .ref 1001, .ref 157, .int q129.1]) (g2 := q129.2) cdE_303 rfl ?_
      by_cases hi130 : inb (v3 + (1 : Int32)) Lx
      · rw [if_pos hi130] at h
        refine ev_iaload (v := .int (q129.2.1 1001 (v3 + (1 : Int32)).toNatClampNeg)) rfl rfl (by decide) hi130 rfl ?_
        refine ev_rn (n := 4) (i2 := 1015) (L2 := [some (.ref 1001), some (.ref 0), some (.ref 157), some (.int v3)]) (st2 := [.int (v3 + (2 : Int32)), .ref 1001, .int (q129.2.1 1001 (v3 + (1 : Int32)).toNatClampNeg), .ref 157, .int q129.1]) (g2 := q129.2) cdE_303 rfl ?_
        by_cases hi131 : inb (v3 + (2 : Int32)) Lx
        · rw [if_pos hi131] at h
          refine ev_iaload (v := .int (q129.2.1 1001 (v3 + (2 : Int32)).toNatClampNeg)) rfl rfl (by decide) hi131 rfl ?_
          obtain ⟨q132, hq132, h⟩ := Option.bind_eq_some_iff.mp h
          refine ev_call rfl cdE_269 rfl rfl rfl (e_Mo_placed (q129.2.1 1001 (v3 + (1 : Int32)).toNatClampNeg) (q129.2.1 1001 (v3 + (2 : Int32)).toNatClampNeg)  q129.2 hq132) ?_
          by_cases hc133 : q129.1 = q132.1
          · rw [if_pos hc133] at h
            refine ev_ift cdE_303 rfl (cn_t hc133) ?_
            refine ev_rn (n := 2) (i2 := 10) (L2 := [some (.ref 1001), some (.ref 0), some (.ref 157), some (.int (v3 + (6 : Int32)))]) (st2 := []) (g2 := q132.2) cdE_303 rfl ?_
            cases h
            exact ev_wk (L := [some (.ref 1001), some (.ref 0), some (.ref 157), some (.int (v3 + (6 : Int32)))]) hb ⟨rfl, ⟨rfl, ⟨rfl, ⟨rfl, trivial⟩⟩⟩⟩
          · rw [if_neg hc133] at h
            refine ev_iff rfl (cn_f hc133) ?_
            refine ev_rn (n := 1) (i2 := 1019) (L2 := [some (.ref 1001), some (.ref 0), some (.ref 157), some (.int v3)]) (st2 := [.int (0 : Int32)]) (g2 := q132.2) cdE_303 rfl ?_
            cases h
            cases hb
            exact ev_ret rfl rt_0
        · rw [if_neg hi131] at h
          cases h
      · rw [if_neg hi130] at h
        cases h
    · rw [if_neg hi128] at h
      cases h
  · rw [if_neg hi127] at h
    cases h
def j_La_law_956 (Lx : Nat) (v3 : Int32) (g : M2) : Option ((Int32 × M2) ⊕ (M2 ⊕ (Int32 × M2))) := (if inb (v3 + (1 : Int32)) Lx then (if inb (v3 + (2 : Int32)) Lx then (if inb (v3 + (3 : Int32)) Lx then ((f_Da_sealed (g.1 1001 (v3 + (1 : Int32)).toNatClampNeg) (g.1 1001 (v3 + (2 : Int32)).toNatClampNeg) (g.1 1001 (v3 + (3 : Int32)).toNatClampNeg) g).bind fun q137 => (if inb (v3 + (1 : Int32)) Lx then (if inb (v3 + (2 : Int32)) Lx then (if inb (v3 + (3 : Int32)) Lx then ((f_Mo_sealed (q137.2.1 1001 (v3 + (1 : Int32)).toNatClampNeg) (q137.2.1 1001 (v3 + (2 : Int32)).toNatClampNeg) (q137.2.1 1001 (v3 + (3 : Int32)).toNatClampNeg) q137.2).bind fun q141 => (if q137.1 = q141.1 then some (.inl ((v3 + (6 : Int32)), q141.2)) else some (.inr (.inr ((0 : Int32), q141.2))))) else none) else none) else none)) else none) else none) else none)
set_option maxRecDepth 100000 in
theorem tj_La_law_956 {Lx : Nat}  (v3 : Int32)  (g : M2) {b : (Int32 × M2) ⊕ (M2 ⊕ (Int32 × M2))} {o : Option Value × M2} (h : j_La_law_956 Lx v3 g = some b) (hb : Sum.elim (fun s => Ev Lx 303 cd_303 10 [some (.ref 1001), some (.ref 0), some (.ref 157), some (.int s.1)] [] s.2 o) (Sum.elim (fun e => Ev Lx 303 cd_303 1260 [] [] e o) (fun r => o = (some (.int r.1), r.2))) b) : Ev Lx 303 cd_303 956 [some (.ref 1001), some (.ref 0), some (.ref 157), some (.int v3)] [] g o := by
  unfold j_La_law_956 at h
  refine ev_rn (n := 5) (i2 := 961) (L2 := [some (.ref 1001), some (.ref 0), some (.ref 157), some (.int v3)]) (st2 := [.int (v3 + (1 : Int32)), .ref 1001, .ref 0]) (g2 := g) cdE_303 rfl ?_
  by_cases hi134 : inb (v3 + (1 : Int32)) Lx
  · rw [if_pos hi134] at h
    refine ev_iaload (v := .int (g.1 1001 (v3 + (1 : Int32)).toNatClampNeg)) rfl rfl (by decide) hi134 rfl ?_
    refine ev_rn (n := 4) (i2 := 966) (L2 := [some (.ref 1001), some (.ref 0), some (.ref 157), some (.int v3)]) (st2 := [.int (v3 + (2 : Int32)), .ref 1001, .int (g.1 1001 (v3 + (1 : Int32)).toNatClampNeg), .ref 0]) (g2 := g) cdE_303 rfl ?_
    by_cases hi135 : inb (v3 + (2 : Int32)) Lx
    · rw [if_pos hi135] at h
      refine ev_iaload (v := .int (g.1 1001 (v3 + (2 : Int32)).toNatClampNeg)) rfl rfl (by decide) hi135 rfl ?_
      refine ev_rn (n := 4) (i2 := 971) (L2 := [some (.ref 1001), some (.ref 0), some (.ref 157), some (.int v3)]) (st2 := [.int (v3 + (3 : Int32)), .ref 1001, .int (g.1 1001 (v3 + (2 : Int32)).toNatClampNeg), .int (g.1 1001 (v3 + (1 : Int32)).toNatClampNeg), .ref 0]) (g2 := g) cdE_303 rfl ?_
      by_cases hi136 : inb (v3 + (3 : Int32)) Lx
      · rw [if_pos hi136] at h
        refine ev_iaload (v := .int (g.1 1001 (v3 + (3 : Int32)).toNatClampNeg)) rfl rfl (by decide) hi136 rfl ?_
        obtain ⟨q137, hq137, h⟩ := Option.bind_eq_some_iff.mp h
        refine ev_call rfl cdE_263 rfl rfl rfl (e_Da_sealed (g.1 1001 (v3 + (1 : Int32)).toNatClampNeg) (g.1 1001 (v3 + (2 : Int32)).toNatClampNeg) (g.1 1001 (v3 + (3 : Int32)).toNatClampNeg)  g hq137) ?_
        refine ev_rn (n := 5) (i2 := 978) (L2 := [some (.ref 1001), some (.ref 0), some (.ref 157), some (.int v3)]) (st2 := [.int (v3 + (1 : Int32)), .ref 1001, .ref 157, .int q137.1]) (g2 := q137.2) cdE_303 rfl ?_
        by_cases hi138 : inb (v3 + (1 : Int32)) Lx
        · rw [if_pos hi138] at h
          refine ev_iaload (v := .int (q137.2.1 1001 (v3 + (1 : Int32)).toNatClampNeg)) rfl rfl (by decide) hi138 rfl ?_
          refine ev_rn (n := 4) (i2 := 983) (L2 := [some (.ref 1001), some (.ref 0), some (.ref 157), some (.int v3)]) (st2 := [.int (v3 + (2 : Int32)), .ref 1001, .int (q137.2.1 1001 (v3 + (1 : Int32)).toNatClampNeg), .ref 157, .int q137.1]) (g2 := q137.2) cdE_303 rfl ?_
          by_cases hi139 : inb (v3 + (2 : Int32)) Lx
          · rw [if_pos hi139] at h
            refine ev_iaload (v := .int (q137.2.1 1001 (v3 + (2 : Int32)).toNatClampNeg)) rfl rfl (by decide) hi139 rfl ?_
            refine ev_rn (n := 4) (i2 := 988) (L2 := [some (.ref 1001), some (.ref 0), some (.ref 157), some (.int v3)]) (st2 := [.int (v3 + (3 : Int32)), .ref 1001, .int (q137.2.1 1001 (v3 + (2 : Int32)).toNatClampNeg), .int (q137.2.1 1001 (v3 + (1 : Int32)).toNatClampNeg), .ref 157, .int q137.1]) (g2 := q137.2) cdE_303 rfl ?_
            by_cases hi140 : inb (v3 + (3 : Int32)) Lx
            · rw [if_pos hi140] at h
              refine ev_iaload (v := .int (q137.2.1 1001 (v3 + (3 : Int32)).toNatClampNeg)) rfl rfl (by decide) hi140 rfl ?_
              obtain ⟨q141, hq141, h⟩ := Option.bind_eq_some_iff.mp h
              refine ev_call rfl cdE_265 rfl rfl rfl (e_Mo_sealed (q137.2.1 1001 (v3 + (1 : Int32)).toNatClampNeg) (q137.2.1 1001 (v3 + (2 : Int32)).toNatClampNeg) (q137.2.1 1001 (v3 + (3 : Int32)).toNatClampNeg)  q137.2 hq141) ?_
              by_cases hc142 : q137.1 = q141.1
              · rw [if_pos hc142] at h
                refine ev_ift cdE_303 rfl (cn_t hc142) ?_
                refine ev_rn (n := 2) (i2 := 10) (L2 := [some (.ref 1001), some (.ref 0), some (.ref 157), some (.int (v3 + (6 : Int32)))]) (st2 := []) (g2 := q141.2) cdE_303 rfl ?_
                cases h
                exact ev_wk (L := [some (.ref 1001), some (.ref 0), some (.ref 157), some (.int (v3 + (6 : Int32)))]) hb ⟨rfl, ⟨rfl, ⟨rfl, ⟨rfl, trivial⟩⟩⟩⟩
              · rw [if_neg hc142] at h
                refine ev_iff rfl (cn_f hc142) ?_
                refine ev_rn (n := 1) (i2 := 992) (L2 := [some (.ref 1001), some (.ref 0), some (.ref 157), some (.int v3)]) (st2 := [.int (0 : Int32)]) (g2 := q141.2) cdE_303 rfl ?_
                cases h
                cases hb
                exact ev_ret rfl rt_0
            · rw [if_neg hi140] at h
              cases h
          · rw [if_neg hi139] at h
            cases h
        · rw [if_neg hi138] at h
          cases h
      · rw [if_neg hi136] at h
        cases h
    · rw [if_neg hi135] at h
      cases h
  · rw [if_neg hi134] at h
    cases h
def j_La_law_949 (Lx : Nat) (v3 : Int32) (g : M2) : Option ((Int32 × M2) ⊕ (M2 ⊕ (Int32 × M2))) := ((f_Da_deafer g).bind fun q143 => ((f_Mo_deafer q143.2).bind fun q144 => (if q143.1 = q144.1 then some (.inl ((v3 + (6 : Int32)), q144.2)) else some (.inr (.inr ((0 : Int32), q144.2))))))
set_option maxRecDepth 100000 in
theorem tj_La_law_949 {Lx : Nat}  (v3 : Int32)  (g : M2) {b : (Int32 × M2) ⊕ (M2 ⊕ (Int32 × M2))} {o : Option Value × M2} (h : j_La_law_949 Lx v3 g = some b) (hb : Sum.elim (fun s => Ev Lx 303 cd_303 10 [some (.ref 1001), some (.ref 0), some (.ref 157), some (.int s.1)] [] s.2 o) (Sum.elim (fun e => Ev Lx 303 cd_303 1260 [] [] e o) (fun r => o = (some (.int r.1), r.2))) b) : Ev Lx 303 cd_303 949 [some (.ref 1001), some (.ref 0), some (.ref 157), some (.int v3)] [] g o := by
  unfold j_La_law_949 at h
  refine ev_rn (n := 1) (i2 := 950) (L2 := [some (.ref 1001), some (.ref 0), some (.ref 157), some (.int v3)]) (st2 := [.ref 0]) (g2 := g) cdE_303 rfl ?_
  obtain ⟨q143, hq143, h⟩ := Option.bind_eq_some_iff.mp h
  refine ev_call rfl cdE_260 rfl rfl rfl (e_Da_deafer   g hq143) ?_
  refine ev_rn (n := 1) (i2 := 952) (L2 := [some (.ref 1001), some (.ref 0), some (.ref 157), some (.int v3)]) (st2 := [.ref 157, .int q143.1]) (g2 := q143.2) cdE_303 rfl ?_
  obtain ⟨q144, hq144, h⟩ := Option.bind_eq_some_iff.mp h
  refine ev_call rfl cdE_261 rfl rfl rfl (e_Mo_deafer   q143.2 hq144) ?_
  by_cases hc145 : q143.1 = q144.1
  · rw [if_pos hc145] at h
    refine ev_ift cdE_303 rfl (cn_t hc145) ?_
    refine ev_rn (n := 2) (i2 := 10) (L2 := [some (.ref 1001), some (.ref 0), some (.ref 157), some (.int (v3 + (6 : Int32)))]) (st2 := []) (g2 := q144.2) cdE_303 rfl ?_
    cases h
    exact ev_wk (L := [some (.ref 1001), some (.ref 0), some (.ref 157), some (.int (v3 + (6 : Int32)))]) hb ⟨rfl, ⟨rfl, ⟨rfl, ⟨rfl, trivial⟩⟩⟩⟩
  · rw [if_neg hc145] at h
    refine ev_iff rfl (cn_f hc145) ?_
    refine ev_rn (n := 1) (i2 := 955) (L2 := [some (.ref 1001), some (.ref 0), some (.ref 157), some (.int v3)]) (st2 := [.int (0 : Int32)]) (g2 := q144.2) cdE_303 rfl ?_
    cases h
    cases hb
    exact ev_ret rfl rt_0
def j_La_law_942 (Lx : Nat) (v3 : Int32) (g : M2) : Option ((Int32 × M2) ⊕ (M2 ⊕ (Int32 × M2))) := ((f_Da_easiest g).bind fun q146 => ((f_Mo_easiest q146.2).bind fun q147 => (if q146.1 = q147.1 then some (.inl ((v3 + (6 : Int32)), q147.2)) else some (.inr (.inr ((0 : Int32), q147.2))))))
set_option maxRecDepth 100000 in
theorem tj_La_law_942 {Lx : Nat}  (v3 : Int32)  (g : M2) {b : (Int32 × M2) ⊕ (M2 ⊕ (Int32 × M2))} {o : Option Value × M2} (h : j_La_law_942 Lx v3 g = some b) (hb : Sum.elim (fun s => Ev Lx 303 cd_303 10 [some (.ref 1001), some (.ref 0), some (.ref 157), some (.int s.1)] [] s.2 o) (Sum.elim (fun e => Ev Lx 303 cd_303 1260 [] [] e o) (fun r => o = (some (.int r.1), r.2))) b) : Ev Lx 303 cd_303 942 [some (.ref 1001), some (.ref 0), some (.ref 157), some (.int v3)] [] g o := by
  unfold j_La_law_942 at h
  refine ev_rn (n := 1) (i2 := 943) (L2 := [some (.ref 1001), some (.ref 0), some (.ref 157), some (.int v3)]) (st2 := [.ref 0]) (g2 := g) cdE_303 rfl ?_
  obtain ⟨q146, hq146, h⟩ := Option.bind_eq_some_iff.mp h
  refine ev_call rfl cdE_256 rfl rfl rfl (e_Da_easiest   g hq146) ?_
  refine ev_rn (n := 1) (i2 := 945) (L2 := [some (.ref 1001), some (.ref 0), some (.ref 157), some (.int v3)]) (st2 := [.ref 157, .int q146.1]) (g2 := q146.2) cdE_303 rfl ?_
  obtain ⟨q147, hq147, h⟩ := Option.bind_eq_some_iff.mp h
  refine ev_call rfl cdE_258 rfl rfl rfl (e_Mo_easiest   q146.2 hq147) ?_
  by_cases hc148 : q146.1 = q147.1
  · rw [if_pos hc148] at h
    refine ev_ift cdE_303 rfl (cn_t hc148) ?_
    refine ev_rn (n := 2) (i2 := 10) (L2 := [some (.ref 1001), some (.ref 0), some (.ref 157), some (.int (v3 + (6 : Int32)))]) (st2 := []) (g2 := q147.2) cdE_303 rfl ?_
    cases h
    exact ev_wk (L := [some (.ref 1001), some (.ref 0), some (.ref 157), some (.int (v3 + (6 : Int32)))]) hb ⟨rfl, ⟨rfl, ⟨rfl, ⟨rfl, trivial⟩⟩⟩⟩
  · rw [if_neg hc148] at h
    refine ev_iff rfl (cn_f hc148) ?_
    refine ev_rn (n := 1) (i2 := 948) (L2 := [some (.ref 1001), some (.ref 0), some (.ref 157), some (.int v3)]) (st2 := [.int (0 : Int32)]) (g2 := q147.2) cdE_303 rfl ?_
    cases h
    cases hb
    exact ev_ret rfl rt_0
def j_La_law_935 (Lx : Nat) (v3 : Int32) (g : M2) : Option ((Int32 × M2) ⊕ (M2 ⊕ (Int32 × M2))) := ((f_Da_looks g).bind fun q149 => ((f_Mo_looks q149.2).bind fun q150 => (if q149.1 = q150.1 then some (.inl ((v3 + (6 : Int32)), q150.2)) else some (.inr (.inr ((0 : Int32), q150.2))))))
set_option maxRecDepth 100000 in
theorem tj_La_law_935 {Lx : Nat}  (v3 : Int32)  (g : M2) {b : (Int32 × M2) ⊕ (M2 ⊕ (Int32 × M2))} {o : Option Value × M2} (h : j_La_law_935 Lx v3 g = some b) (hb : Sum.elim (fun s => Ev Lx 303 cd_303 10 [some (.ref 1001), some (.ref 0), some (.ref 157), some (.int s.1)] [] s.2 o) (Sum.elim (fun e => Ev Lx 303 cd_303 1260 [] [] e o) (fun r => o = (some (.int r.1), r.2))) b) : Ev Lx 303 cd_303 935 [some (.ref 1001), some (.ref 0), some (.ref 157), some (.int v3)] [] g o := by
  unfold j_La_law_935 at h
  refine ev_rn (n := 1) (i2 := 936) (L2 := [some (.ref 1001), some (.ref 0), some (.ref 157), some (.int v3)]) (st2 := [.ref 0]) (g2 := g) cdE_303 rfl ?_
  obtain ⟨q149, hq149, h⟩ := Option.bind_eq_some_iff.mp h
  refine ev_call rfl cdE_252 rfl rfl rfl (e_Da_looks   g hq149) ?_
  refine ev_rn (n := 1) (i2 := 938) (L2 := [some (.ref 1001), some (.ref 0), some (.ref 157), some (.int v3)]) (st2 := [.ref 157, .int q149.1]) (g2 := q149.2) cdE_303 rfl ?_
  obtain ⟨q150, hq150, h⟩ := Option.bind_eq_some_iff.mp h
  refine ev_call rfl cdE_253 rfl rfl rfl (e_Mo_looks   q149.2 hq150) ?_
  by_cases hc151 : q149.1 = q150.1
  · rw [if_pos hc151] at h
    refine ev_ift cdE_303 rfl (cn_t hc151) ?_
    refine ev_rn (n := 2) (i2 := 10) (L2 := [some (.ref 1001), some (.ref 0), some (.ref 157), some (.int (v3 + (6 : Int32)))]) (st2 := []) (g2 := q150.2) cdE_303 rfl ?_
    cases h
    exact ev_wk (L := [some (.ref 1001), some (.ref 0), some (.ref 157), some (.int (v3 + (6 : Int32)))]) hb ⟨rfl, ⟨rfl, ⟨rfl, ⟨rfl, trivial⟩⟩⟩⟩
  · rw [if_neg hc151] at h
    refine ev_iff rfl (cn_f hc151) ?_
    refine ev_rn (n := 1) (i2 := 941) (L2 := [some (.ref 1001), some (.ref 0), some (.ref 157), some (.int v3)]) (st2 := [.int (0 : Int32)]) (g2 := q150.2) cdE_303 rfl ?_
    cases h
    cases hb
    exact ev_ret rfl rt_0
def j_La_law_907 (Lx : Nat) (v3 : Int32) (g : M2) : Option ((Int32 × M2) ⊕ (M2 ⊕ (Int32 × M2))) := (if inb (v3 + (1 : Int32)) Lx then (if inb (v3 + (2 : Int32)) Lx then ((f_Da_polish (g.1 1001 (v3 + (1 : Int32)).toNatClampNeg) (g.1 1001 (v3 + (2 : Int32)).toNatClampNeg) g).bind fun q154 => (if inb (v3 + (1 : Int32)) Lx then (if inb (v3 + (2 : Int32)) Lx then ((f_Mo_polish (q154.2.1 1001 (v3 + (1 : Int32)).toNatClampNeg) (q154.2.1 1001 (v3 + (2 : Int32)).toNatClampNeg) q154.2).bind fun q157 => (if q154.1 = q157.1 then some (.inl ((v3 + (6 : Int32)), q157.2)) else some (.inr (.inr ((0 : Int32), q157.2))))) else none) else none)) else none) else none)
set_option maxRecDepth 100000 in
theorem tj_La_law_907 {Lx : Nat}  (v3 : Int32)  (g : M2) {b : (Int32 × M2) ⊕ (M2 ⊕ (Int32 × M2))} {o : Option Value × M2} (h : j_La_law_907 Lx v3 g = some b) (hb : Sum.elim (fun s => Ev Lx 303 cd_303 10 [some (.ref 1001), some (.ref 0), some (.ref 157), some (.int s.1)] [] s.2 o) (Sum.elim (fun e => Ev Lx 303 cd_303 1260 [] [] e o) (fun r => o = (some (.int r.1), r.2))) b) : Ev Lx 303 cd_303 907 [some (.ref 1001), some (.ref 0), some (.ref 157), some (.int v3)] [] g o := by
  unfold j_La_law_907 at h
  refine ev_rn (n := 5) (i2 := 912) (L2 := [some (.ref 1001), some (.ref 0), some (.ref 157), some (.int v3)]) (st2 := [.int (v3 + (1 : Int32)), .ref 1001, .ref 0]) (g2 := g) cdE_303 rfl ?_
  by_cases hi152 : inb (v3 + (1 : Int32)) Lx
  · rw [if_pos hi152] at h
    refine ev_iaload (v := .int (g.1 1001 (v3 + (1 : Int32)).toNatClampNeg)) rfl rfl (by decide) hi152 rfl ?_
    refine ev_rn (n := 4) (i2 := 917) (L2 := [some (.ref 1001), some (.ref 0), some (.ref 157), some (.int v3)]) (st2 := [.int (v3 + (2 : Int32)), .ref 1001, .int (g.1 1001 (v3 + (1 : Int32)).toNatClampNeg), .ref 0]) (g2 := g) cdE_303 rfl ?_
    by_cases hi153 : inb (v3 + (2 : Int32)) Lx
    · rw [if_pos hi153] at h
      refine ev_iaload (v := .int (g.1 1001 (v3 + (2 : Int32)).toNatClampNeg)) rfl rfl (by decide) hi153 rfl ?_
      obtain ⟨q154, hq154, h⟩ := Option.bind_eq_some_iff.mp h
      refine ev_call rfl cdE_247 rfl rfl rfl (e_Da_polish (g.1 1001 (v3 + (1 : Int32)).toNatClampNeg) (g.1 1001 (v3 + (2 : Int32)).toNatClampNeg)  g hq154) ?_
      refine ev_rn (n := 5) (i2 := 924) (L2 := [some (.ref 1001), some (.ref 0), some (.ref 157), some (.int v3)]) (st2 := [.int (v3 + (1 : Int32)), .ref 1001, .ref 157, .long q154.1]) (g2 := q154.2) cdE_303 rfl ?_
      by_cases hi155 : inb (v3 + (1 : Int32)) Lx
      · rw [if_pos hi155] at h
        refine ev_iaload (v := .int (q154.2.1 1001 (v3 + (1 : Int32)).toNatClampNeg)) rfl rfl (by decide) hi155 rfl ?_
        refine ev_rn (n := 4) (i2 := 929) (L2 := [some (.ref 1001), some (.ref 0), some (.ref 157), some (.int v3)]) (st2 := [.int (v3 + (2 : Int32)), .ref 1001, .int (q154.2.1 1001 (v3 + (1 : Int32)).toNatClampNeg), .ref 157, .long q154.1]) (g2 := q154.2) cdE_303 rfl ?_
        by_cases hi156 : inb (v3 + (2 : Int32)) Lx
        · rw [if_pos hi156] at h
          refine ev_iaload (v := .int (q154.2.1 1001 (v3 + (2 : Int32)).toNatClampNeg)) rfl rfl (by decide) hi156 rfl ?_
          obtain ⟨q157, hq157, h⟩ := Option.bind_eq_some_iff.mp h
          refine ev_call rfl cdE_248 rfl rfl rfl (e_Mo_polish (q154.2.1 1001 (v3 + (1 : Int32)).toNatClampNeg) (q154.2.1 1001 (v3 + (2 : Int32)).toNatClampNeg)  q154.2 hq157) ?_
          refine ev_rn (n := 1) (i2 := 932) (L2 := [some (.ref 1001), some (.ref 0), some (.ref 157), some (.int v3)]) (st2 := [.int (lg_cmp q154.1 q157.1)]) (g2 := q157.2) cdE_303 rfl ?_
          by_cases hc158 : q154.1 = q157.1
          · rw [if_pos hc158] at h
            refine ev_zft cdE_303 rfl (lc_eq_t hc158) ?_
            refine ev_rn (n := 2) (i2 := 10) (L2 := [some (.ref 1001), some (.ref 0), some (.ref 157), some (.int (v3 + (6 : Int32)))]) (st2 := []) (g2 := q157.2) cdE_303 rfl ?_
            cases h
            exact ev_wk (L := [some (.ref 1001), some (.ref 0), some (.ref 157), some (.int (v3 + (6 : Int32)))]) hb ⟨rfl, ⟨rfl, ⟨rfl, ⟨rfl, trivial⟩⟩⟩⟩
          · rw [if_neg hc158] at h
            refine ev_zff rfl (lc_eq_f hc158) ?_
            refine ev_rn (n := 1) (i2 := 934) (L2 := [some (.ref 1001), some (.ref 0), some (.ref 157), some (.int v3)]) (st2 := [.int (0 : Int32)]) (g2 := q157.2) cdE_303 rfl ?_
            cases h
            cases hb
            exact ev_ret rfl rt_0
        · rw [if_neg hi156] at h
          cases h
      · rw [if_neg hi155] at h
        cases h
    · rw [if_neg hi153] at h
      cases h
  · rw [if_neg hi152] at h
    cases h
def j_La_law_900 (Lx : Nat) (v3 : Int32) (g : M2) : Option ((Int32 × M2) ⊕ (M2 ⊕ (Int32 × M2))) := ((f_Da_exactly g).bind fun q159 => ((f_Mo_exactly q159.2).bind fun q160 => (if q159.1 = q160.1 then some (.inl ((v3 + (6 : Int32)), q160.2)) else some (.inr (.inr ((0 : Int32), q160.2))))))
set_option maxRecDepth 100000 in
theorem tj_La_law_900 {Lx : Nat}  (v3 : Int32)  (g : M2) {b : (Int32 × M2) ⊕ (M2 ⊕ (Int32 × M2))} {o : Option Value × M2} (h : j_La_law_900 Lx v3 g = some b) (hb : Sum.elim (fun s => Ev Lx 303 cd_303 10 [some (.ref 1001), some (.ref 0), some (.ref 157), some (.int s.1)] [] s.2 o) (Sum.elim (fun e => Ev Lx 303 cd_303 1260 [] [] e o) (fun r => o = (some (.int r.1), r.2))) b) : Ev Lx 303 cd_303 900 [some (.ref 1001), some (.ref 0), some (.ref 157), some (.int v3)] [] g o := by
  unfold j_La_law_900 at h
  refine ev_rn (n := 1) (i2 := 901) (L2 := [some (.ref 1001), some (.ref 0), some (.ref 157), some (.int v3)]) (st2 := [.ref 0]) (g2 := g) cdE_303 rfl ?_
  obtain ⟨q159, hq159, h⟩ := Option.bind_eq_some_iff.mp h
  refine ev_call rfl cdE_244 rfl rfl rfl (e_Da_exactly   g hq159) ?_
  refine ev_rn (n := 1) (i2 := 903) (L2 := [some (.ref 1001), some (.ref 0), some (.ref 157), some (.int v3)]) (st2 := [.ref 157, .int q159.1]) (g2 := q159.2) cdE_303 rfl ?_
  obtain ⟨q160, hq160, h⟩ := Option.bind_eq_some_iff.mp h
  refine ev_call rfl cdE_245 rfl rfl rfl (e_Mo_exactly   q159.2 hq160) ?_
  by_cases hc161 : q159.1 = q160.1
  · rw [if_pos hc161] at h
    refine ev_ift cdE_303 rfl (cn_t hc161) ?_
    refine ev_rn (n := 2) (i2 := 10) (L2 := [some (.ref 1001), some (.ref 0), some (.ref 157), some (.int (v3 + (6 : Int32)))]) (st2 := []) (g2 := q160.2) cdE_303 rfl ?_
    cases h
    exact ev_wk (L := [some (.ref 1001), some (.ref 0), some (.ref 157), some (.int (v3 + (6 : Int32)))]) hb ⟨rfl, ⟨rfl, ⟨rfl, ⟨rfl, trivial⟩⟩⟩⟩
  · rw [if_neg hc161] at h
    refine ev_iff rfl (cn_f hc161) ?_
    refine ev_rn (n := 1) (i2 := 906) (L2 := [some (.ref 1001), some (.ref 0), some (.ref 157), some (.int v3)]) (st2 := [.int (0 : Int32)]) (g2 := q160.2) cdE_303 rfl ?_
    cases h
    cases hb
    exact ev_ret rfl rt_0
def j_La_law_883 (Lx : Nat) (v3 : Int32) (g : M2) : Option ((Int32 × M2) ⊕ (M2 ⊕ (Int32 × M2))) := (if inb (v3 + (1 : Int32)) Lx then ((f_Da_step (g.1 1001 (v3 + (1 : Int32)).toNatClampNeg) g).bind fun q163 => (if inb (v3 + (1 : Int32)) Lx then ((f_Mo_step (q163.2.1 1001 (v3 + (1 : Int32)).toNatClampNeg) q163.2).bind fun q165 => (if q163.1 = q165.1 then some (.inl ((v3 + (6 : Int32)), q165.2)) else some (.inr (.inr ((0 : Int32), q165.2))))) else none)) else none)
set_option maxRecDepth 100000 in
theorem tj_La_law_883 {Lx : Nat}  (v3 : Int32)  (g : M2) {b : (Int32 × M2) ⊕ (M2 ⊕ (Int32 × M2))} {o : Option Value × M2} (h : j_La_law_883 Lx v3 g = some b) (hb : Sum.elim (fun s => Ev Lx 303 cd_303 10 [some (.ref 1001), some (.ref 0), some (.ref 157), some (.int s.1)] [] s.2 o) (Sum.elim (fun e => Ev Lx 303 cd_303 1260 [] [] e o) (fun r => o = (some (.int r.1), r.2))) b) : Ev Lx 303 cd_303 883 [some (.ref 1001), some (.ref 0), some (.ref 157), some (.int v3)] [] g o := by
  unfold j_La_law_883 at h
  refine ev_rn (n := 5) (i2 := 888) (L2 := [some (.ref 1001), some (.ref 0), some (.ref 157), some (.int v3)]) (st2 := [.int (v3 + (1 : Int32)), .ref 1001, .ref 0]) (g2 := g) cdE_303 rfl ?_
  by_cases hi162 : inb (v3 + (1 : Int32)) Lx
  · rw [if_pos hi162] at h
    refine ev_iaload (v := .int (g.1 1001 (v3 + (1 : Int32)).toNatClampNeg)) rfl rfl (by decide) hi162 rfl ?_
    obtain ⟨q163, hq163, h⟩ := Option.bind_eq_some_iff.mp h
    refine ev_call rfl cdE_239 rfl rfl rfl (e_Da_step (g.1 1001 (v3 + (1 : Int32)).toNatClampNeg)  g hq163) ?_
    refine ev_rn (n := 5) (i2 := 895) (L2 := [some (.ref 1001), some (.ref 0), some (.ref 157), some (.int v3)]) (st2 := [.int (v3 + (1 : Int32)), .ref 1001, .ref 157, .int q163.1]) (g2 := q163.2) cdE_303 rfl ?_
    by_cases hi164 : inb (v3 + (1 : Int32)) Lx
    · rw [if_pos hi164] at h
      refine ev_iaload (v := .int (q163.2.1 1001 (v3 + (1 : Int32)).toNatClampNeg)) rfl rfl (by decide) hi164 rfl ?_
      obtain ⟨q165, hq165, h⟩ := Option.bind_eq_some_iff.mp h
      refine ev_call rfl cdE_242 rfl rfl rfl (e_Mo_step (q163.2.1 1001 (v3 + (1 : Int32)).toNatClampNeg)  q163.2 hq165) ?_
      by_cases hc166 : q163.1 = q165.1
      · rw [if_pos hc166] at h
        refine ev_ift cdE_303 rfl (cn_t hc166) ?_
        refine ev_rn (n := 2) (i2 := 10) (L2 := [some (.ref 1001), some (.ref 0), some (.ref 157), some (.int (v3 + (6 : Int32)))]) (st2 := []) (g2 := q165.2) cdE_303 rfl ?_
        cases h
        exact ev_wk (L := [some (.ref 1001), some (.ref 0), some (.ref 157), some (.int (v3 + (6 : Int32)))]) hb ⟨rfl, ⟨rfl, ⟨rfl, ⟨rfl, trivial⟩⟩⟩⟩
      · rw [if_neg hc166] at h
        refine ev_iff rfl (cn_f hc166) ?_
        refine ev_rn (n := 1) (i2 := 899) (L2 := [some (.ref 1001), some (.ref 0), some (.ref 157), some (.int v3)]) (st2 := [.int (0 : Int32)]) (g2 := q165.2) cdE_303 rfl ?_
        cases h
        cases hb
        exact ev_ret rfl rt_0
    · rw [if_neg hi164] at h
      cases h
  · rw [if_neg hi162] at h
    cases h
def j_La_law_856 (Lx : Nat) (v3 : Int32) (g : M2) : Option ((Int32 × M2) ⊕ (M2 ⊕ (Int32 × M2))) := (if inb (v3 + (1 : Int32)) Lx then (if inb (v3 + (2 : Int32)) Lx then ((f_Da_coarsest (g.1 1001 (v3 + (1 : Int32)).toNatClampNeg) (g.1 1001 (v3 + (2 : Int32)).toNatClampNeg) g).bind fun q169 => (if inb (v3 + (1 : Int32)) Lx then (if inb (v3 + (2 : Int32)) Lx then ((f_Mo_coarsest (q169.2.1 1001 (v3 + (1 : Int32)).toNatClampNeg) (q169.2.1 1001 (v3 + (2 : Int32)).toNatClampNeg) q169.2).bind fun q172 => (if q169.1 = q172.1 then some (.inl ((v3 + (6 : Int32)), q172.2)) else some (.inr (.inr ((0 : Int32), q172.2))))) else none) else none)) else none) else none)
set_option maxRecDepth 100000 in
theorem tj_La_law_856 {Lx : Nat}  (v3 : Int32)  (g : M2) {b : (Int32 × M2) ⊕ (M2 ⊕ (Int32 × M2))} {o : Option Value × M2} (h : j_La_law_856 Lx v3 g = some b) (hb : Sum.elim (fun s => Ev Lx 303 cd_303 10 [some (.ref 1001), some (.ref 0), some (.ref 157), some (.int s.1)] [] s.2 o) (Sum.elim (fun e => Ev Lx 303 cd_303 1260 [] [] e o) (fun r => o = (some (.int r.1), r.2))) b) : Ev Lx 303 cd_303 856 [some (.ref 1001), some (.ref 0), some (.ref 157), some (.int v3)] [] g o := by
  unfold j_La_law_856 at h
  refine ev_rn (n := 5) (i2 := 861) (L2 := [some (.ref 1001), some (.ref 0), some (.ref 157), some (.int v3)]) (st2 := [.int (v3 + (1 : Int32)), .ref 1001, .ref 0]) (g2 := g) cdE_303 rfl ?_
  by_cases hi167 : inb (v3 + (1 : Int32)) Lx
  · rw [if_pos hi167] at h
    refine ev_iaload (v := .int (g.1 1001 (v3 + (1 : Int32)).toNatClampNeg)) rfl rfl (by decide) hi167 rfl ?_
    refine ev_rn (n := 4) (i2 := 866) (L2 := [some (.ref 1001), some (.ref 0), some (.ref 157), some (.int v3)]) (st2 := [.int (v3 + (2 : Int32)), .ref 1001, .int (g.1 1001 (v3 + (1 : Int32)).toNatClampNeg), .ref 0]) (g2 := g) cdE_303 rfl ?_
    by_cases hi168 : inb (v3 + (2 : Int32)) Lx
    · rw [if_pos hi168] at h
      refine ev_iaload (v := .int (g.1 1001 (v3 + (2 : Int32)).toNatClampNeg)) rfl rfl (by decide) hi168 rfl ?_
      obtain ⟨q169, hq169, h⟩ := Option.bind_eq_some_iff.mp h
      refine ev_call rfl cdE_233 rfl rfl rfl (e_Da_coarsest (g.1 1001 (v3 + (1 : Int32)).toNatClampNeg) (g.1 1001 (v3 + (2 : Int32)).toNatClampNeg)  g hq169) ?_
      refine ev_rn (n := 5) (i2 := 873) (L2 := [some (.ref 1001), some (.ref 0), some (.ref 157), some (.int v3)]) (st2 := [.int (v3 + (1 : Int32)), .ref 1001, .ref 157, .int q169.1]) (g2 := q169.2) cdE_303 rfl ?_
      by_cases hi170 : inb (v3 + (1 : Int32)) Lx
      · rw [if_pos hi170] at h
        refine ev_iaload (v := .int (q169.2.1 1001 (v3 + (1 : Int32)).toNatClampNeg)) rfl rfl (by decide) hi170 rfl ?_
        refine ev_rn (n := 4) (i2 := 878) (L2 := [some (.ref 1001), some (.ref 0), some (.ref 157), some (.int v3)]) (st2 := [.int (v3 + (2 : Int32)), .ref 1001, .int (q169.2.1 1001 (v3 + (1 : Int32)).toNatClampNeg), .ref 157, .int q169.1]) (g2 := q169.2) cdE_303 rfl ?_
        by_cases hi171 : inb (v3 + (2 : Int32)) Lx
        · rw [if_pos hi171] at h
          refine ev_iaload (v := .int (q169.2.1 1001 (v3 + (2 : Int32)).toNatClampNeg)) rfl rfl (by decide) hi171 rfl ?_
          obtain ⟨q172, hq172, h⟩ := Option.bind_eq_some_iff.mp h
          refine ev_call rfl cdE_234 rfl rfl rfl (e_Mo_coarsest (q169.2.1 1001 (v3 + (1 : Int32)).toNatClampNeg) (q169.2.1 1001 (v3 + (2 : Int32)).toNatClampNeg)  q169.2 hq172) ?_
          by_cases hc173 : q169.1 = q172.1
          · rw [if_pos hc173] at h
            refine ev_ift cdE_303 rfl (cn_t hc173) ?_
            refine ev_rn (n := 2) (i2 := 10) (L2 := [some (.ref 1001), some (.ref 0), some (.ref 157), some (.int (v3 + (6 : Int32)))]) (st2 := []) (g2 := q172.2) cdE_303 rfl ?_
            cases h
            exact ev_wk (L := [some (.ref 1001), some (.ref 0), some (.ref 157), some (.int (v3 + (6 : Int32)))]) hb ⟨rfl, ⟨rfl, ⟨rfl, ⟨rfl, trivial⟩⟩⟩⟩
          · rw [if_neg hc173] at h
            refine ev_iff rfl (cn_f hc173) ?_
            refine ev_rn (n := 1) (i2 := 882) (L2 := [some (.ref 1001), some (.ref 0), some (.ref 157), some (.int v3)]) (st2 := [.int (0 : Int32)]) (g2 := q172.2) cdE_303 rfl ?_
            cases h
            cases hb
            exact ev_ret rfl rt_0
        · rw [if_neg hi171] at h
          cases h
      · rw [if_neg hi170] at h
        cases h
    · rw [if_neg hi168] at h
      cases h
  · rw [if_neg hi167] at h
    cases h
def j_La_law_839 (Lx : Nat) (v3 : Int32) (g : M2) : Option ((Int32 × M2) ⊕ (M2 ⊕ (Int32 × M2))) := (if inb (v3 + (1 : Int32)) Lx then ((f_Da_within (g.1 1001 (v3 + (1 : Int32)).toNatClampNeg) g).bind fun q175 => (if inb (v3 + (1 : Int32)) Lx then ((f_Mo_within (q175.2.1 1001 (v3 + (1 : Int32)).toNatClampNeg) q175.2).bind fun q177 => (if q175.1 = q177.1 then some (.inl ((v3 + (6 : Int32)), q177.2)) else some (.inr (.inr ((0 : Int32), q177.2))))) else none)) else none)
set_option maxRecDepth 100000 in
theorem tj_La_law_839 {Lx : Nat}  (v3 : Int32)  (g : M2) {b : (Int32 × M2) ⊕ (M2 ⊕ (Int32 × M2))} {o : Option Value × M2} (h : j_La_law_839 Lx v3 g = some b) (hb : Sum.elim (fun s => Ev Lx 303 cd_303 10 [some (.ref 1001), some (.ref 0), some (.ref 157), some (.int s.1)] [] s.2 o) (Sum.elim (fun e => Ev Lx 303 cd_303 1260 [] [] e o) (fun r => o = (some (.int r.1), r.2))) b) : Ev Lx 303 cd_303 839 [some (.ref 1001), some (.ref 0), some (.ref 157), some (.int v3)] [] g o := by
  unfold j_La_law_839 at h
  refine ev_rn (n := 5) (i2 := 844) (L2 := [some (.ref 1001), some (.ref 0), some (.ref 157), some (.int v3)]) (st2 := [.int (v3 + (1 : Int32)), .ref 1001, .ref 0]) (g2 := g) cdE_303 rfl ?_
  by_cases hi174 : inb (v3 + (1 : Int32)) Lx
  · rw [if_pos hi174] at h
    refine ev_iaload (v := .int (g.1 1001 (v3 + (1 : Int32)).toNatClampNeg)) rfl rfl (by decide) hi174 rfl ?_
    obtain ⟨q175, hq175, h⟩ := Option.bind_eq_some_iff.mp h
    refine ev_call rfl cdE_230 rfl rfl rfl (e_Da_within (g.1 1001 (v3 + (1 : Int32)).toNatClampNeg)  g hq175) ?_
    refine ev_rn (n := 5) (i2 := 851) (L2 := [some (.ref 1001), some (.ref 0), some (.ref 157), some (.int v3)]) (st2 := [.int (v3 + (1 : Int32)), .ref 1001, .ref 157, .int q175.1]) (g2 := q175.2) cdE_303 rfl ?_
    by_cases hi176 : inb (v3 + (1 : Int32)) Lx
    · rw [if_pos hi176] at h
      refine ev_iaload (v := .int (q175.2.1 1001 (v3 + (1 : Int32)).toNatClampNeg)) rfl rfl (by decide) hi176 rfl ?_
      obtain ⟨q177, hq177, h⟩ := Option.bind_eq_some_iff.mp h
      refine ev_call rfl cdE_231 rfl rfl rfl (e_Mo_within (q175.2.1 1001 (v3 + (1 : Int32)).toNatClampNeg)  q175.2 hq177) ?_
      by_cases hc178 : q175.1 = q177.1
      · rw [if_pos hc178] at h
        refine ev_ift cdE_303 rfl (cn_t hc178) ?_
        refine ev_rn (n := 2) (i2 := 10) (L2 := [some (.ref 1001), some (.ref 0), some (.ref 157), some (.int (v3 + (6 : Int32)))]) (st2 := []) (g2 := q177.2) cdE_303 rfl ?_
        cases h
        exact ev_wk (L := [some (.ref 1001), some (.ref 0), some (.ref 157), some (.int (v3 + (6 : Int32)))]) hb ⟨rfl, ⟨rfl, ⟨rfl, ⟨rfl, trivial⟩⟩⟩⟩
      · rw [if_neg hc178] at h
        refine ev_iff rfl (cn_f hc178) ?_
        refine ev_rn (n := 1) (i2 := 855) (L2 := [some (.ref 1001), some (.ref 0), some (.ref 157), some (.int v3)]) (st2 := [.int (0 : Int32)]) (g2 := q177.2) cdE_303 rfl ?_
        cases h
        cases hb
        exact ev_ret rfl rt_0
    · rw [if_neg hi176] at h
      cases h
  · rw [if_neg hi174] at h
    cases h
def j_La_law_832 (Lx : Nat) (v3 : Int32) (g : M2) : Option ((Int32 × M2) ⊕ (M2 ⊕ (Int32 × M2))) := ((f_Da_farthest g).bind fun q179 => ((f_Mo_farthest q179.2).bind fun q180 => (if q179.1 = q180.1 then some (.inl ((v3 + (6 : Int32)), q180.2)) else some (.inr (.inr ((0 : Int32), q180.2))))))
set_option maxRecDepth 100000 in
theorem tj_La_law_832 {Lx : Nat}  (v3 : Int32)  (g : M2) {b : (Int32 × M2) ⊕ (M2 ⊕ (Int32 × M2))} {o : Option Value × M2} (h : j_La_law_832 Lx v3 g = some b) (hb : Sum.elim (fun s => Ev Lx 303 cd_303 10 [some (.ref 1001), some (.ref 0), some (.ref 157), some (.int s.1)] [] s.2 o) (Sum.elim (fun e => Ev Lx 303 cd_303 1260 [] [] e o) (fun r => o = (some (.int r.1), r.2))) b) : Ev Lx 303 cd_303 832 [some (.ref 1001), some (.ref 0), some (.ref 157), some (.int v3)] [] g o := by
  unfold j_La_law_832 at h
  refine ev_rn (n := 1) (i2 := 833) (L2 := [some (.ref 1001), some (.ref 0), some (.ref 157), some (.int v3)]) (st2 := [.ref 0]) (g2 := g) cdE_303 rfl ?_
  obtain ⟨q179, hq179, h⟩ := Option.bind_eq_some_iff.mp h
  refine ev_call rfl cdE_228 rfl rfl rfl (e_Da_farthest   g hq179) ?_
  refine ev_rn (n := 1) (i2 := 835) (L2 := [some (.ref 1001), some (.ref 0), some (.ref 157), some (.int v3)]) (st2 := [.ref 157, .int q179.1]) (g2 := q179.2) cdE_303 rfl ?_
  obtain ⟨q180, hq180, h⟩ := Option.bind_eq_some_iff.mp h
  refine ev_call rfl cdE_229 rfl rfl rfl (e_Mo_farthest   q179.2 hq180) ?_
  by_cases hc181 : q179.1 = q180.1
  · rw [if_pos hc181] at h
    refine ev_ift cdE_303 rfl (cn_t hc181) ?_
    refine ev_rn (n := 2) (i2 := 10) (L2 := [some (.ref 1001), some (.ref 0), some (.ref 157), some (.int (v3 + (6 : Int32)))]) (st2 := []) (g2 := q180.2) cdE_303 rfl ?_
    cases h
    exact ev_wk (L := [some (.ref 1001), some (.ref 0), some (.ref 157), some (.int (v3 + (6 : Int32)))]) hb ⟨rfl, ⟨rfl, ⟨rfl, ⟨rfl, trivial⟩⟩⟩⟩
  · rw [if_neg hc181] at h
    refine ev_iff rfl (cn_f hc181) ?_
    refine ev_rn (n := 1) (i2 := 838) (L2 := [some (.ref 1001), some (.ref 0), some (.ref 157), some (.int v3)]) (st2 := [.int (0 : Int32)]) (g2 := q180.2) cdE_303 rfl ?_
    cases h
    cases hb
    exact ev_ret rfl rt_0
def j_La_law_804 (Lx : Nat) (v3 : Int32) (g : M2) : Option ((Int32 × M2) ⊕ (M2 ⊕ (Int32 × M2))) := (if inb (v3 + (1 : Int32)) Lx then (if inb (v3 + (2 : Int32)) Lx then ((f_Da_error (g.1 1001 (v3 + (1 : Int32)).toNatClampNeg) (g.1 1001 (v3 + (2 : Int32)).toNatClampNeg) g).bind fun q184 => (if inb (v3 + (1 : Int32)) Lx then (if inb (v3 + (2 : Int32)) Lx then ((f_Mo_error (q184.2.1 1001 (v3 + (1 : Int32)).toNatClampNeg) (q184.2.1 1001 (v3 + (2 : Int32)).toNatClampNeg) q184.2).bind fun q187 => (if q184.1 = q187.1 then some (.inl ((v3 + (6 : Int32)), q187.2)) else some (.inr (.inr ((0 : Int32), q187.2))))) else none) else none)) else none) else none)
set_option maxRecDepth 100000 in
theorem tj_La_law_804 {Lx : Nat}  (v3 : Int32)  (g : M2) {b : (Int32 × M2) ⊕ (M2 ⊕ (Int32 × M2))} {o : Option Value × M2} (h : j_La_law_804 Lx v3 g = some b) (hb : Sum.elim (fun s => Ev Lx 303 cd_303 10 [some (.ref 1001), some (.ref 0), some (.ref 157), some (.int s.1)] [] s.2 o) (Sum.elim (fun e => Ev Lx 303 cd_303 1260 [] [] e o) (fun r => o = (some (.int r.1), r.2))) b) : Ev Lx 303 cd_303 804 [some (.ref 1001), some (.ref 0), some (.ref 157), some (.int v3)] [] g o := by
  unfold j_La_law_804 at h
  refine ev_rn (n := 5) (i2 := 809) (L2 := [some (.ref 1001), some (.ref 0), some (.ref 157), some (.int v3)]) (st2 := [.int (v3 + (1 : Int32)), .ref 1001, .ref 0]) (g2 := g) cdE_303 rfl ?_
  by_cases hi182 : inb (v3 + (1 : Int32)) Lx
  · rw [if_pos hi182] at h
    refine ev_iaload (v := .int (g.1 1001 (v3 + (1 : Int32)).toNatClampNeg)) rfl rfl (by decide) hi182 rfl ?_
    refine ev_rn (n := 4) (i2 := 814) (L2 := [some (.ref 1001), some (.ref 0), some (.ref 157), some (.int v3)]) (st2 := [.int (v3 + (2 : Int32)), .ref 1001, .int (g.1 1001 (v3 + (1 : Int32)).toNatClampNeg), .ref 0]) (g2 := g) cdE_303 rfl ?_
    by_cases hi183 : inb (v3 + (2 : Int32)) Lx
    · rw [if_pos hi183] at h
      refine ev_iaload (v := .int (g.1 1001 (v3 + (2 : Int32)).toNatClampNeg)) rfl rfl (by decide) hi183 rfl ?_
      obtain ⟨q184, hq184, h⟩ := Option.bind_eq_some_iff.mp h
      refine ev_call rfl cdE_225 rfl rfl rfl (e_Da_error (g.1 1001 (v3 + (1 : Int32)).toNatClampNeg) (g.1 1001 (v3 + (2 : Int32)).toNatClampNeg)  g hq184) ?_
      refine ev_rn (n := 5) (i2 := 821) (L2 := [some (.ref 1001), some (.ref 0), some (.ref 157), some (.int v3)]) (st2 := [.int (v3 + (1 : Int32)), .ref 1001, .ref 157, .long q184.1]) (g2 := q184.2) cdE_303 rfl ?_
      by_cases hi185 : inb (v3 + (1 : Int32)) Lx
      · rw [if_pos hi185] at h
        refine ev_iaload (v := .int (q184.2.1 1001 (v3 + (1 : Int32)).toNatClampNeg)) rfl rfl (by decide) hi185 rfl ?_
        refine ev_rn (n := 4) (i2 := 826) (L2 := [some (.ref 1001), some (.ref 0), some (.ref 157), some (.int v3)]) (st2 := [.int (v3 + (2 : Int32)), .ref 1001, .int (q184.2.1 1001 (v3 + (1 : Int32)).toNatClampNeg), .ref 157, .long q184.1]) (g2 := q184.2) cdE_303 rfl ?_
        by_cases hi186 : inb (v3 + (2 : Int32)) Lx
        · rw [if_pos hi186] at h
          refine ev_iaload (v := .int (q184.2.1 1001 (v3 + (2 : Int32)).toNatClampNeg)) rfl rfl (by decide) hi186 rfl ?_
          obtain ⟨q187, hq187, h⟩ := Option.bind_eq_some_iff.mp h
          refine ev_call rfl cdE_227 rfl rfl rfl (e_Mo_error (q184.2.1 1001 (v3 + (1 : Int32)).toNatClampNeg) (q184.2.1 1001 (v3 + (2 : Int32)).toNatClampNeg)  q184.2 hq187) ?_
          refine ev_rn (n := 1) (i2 := 829) (L2 := [some (.ref 1001), some (.ref 0), some (.ref 157), some (.int v3)]) (st2 := [.int (lg_cmp q184.1 q187.1)]) (g2 := q187.2) cdE_303 rfl ?_
          by_cases hc188 : q184.1 = q187.1
          · rw [if_pos hc188] at h
            refine ev_zft cdE_303 rfl (lc_eq_t hc188) ?_
            refine ev_rn (n := 2) (i2 := 10) (L2 := [some (.ref 1001), some (.ref 0), some (.ref 157), some (.int (v3 + (6 : Int32)))]) (st2 := []) (g2 := q187.2) cdE_303 rfl ?_
            cases h
            exact ev_wk (L := [some (.ref 1001), some (.ref 0), some (.ref 157), some (.int (v3 + (6 : Int32)))]) hb ⟨rfl, ⟨rfl, ⟨rfl, ⟨rfl, trivial⟩⟩⟩⟩
          · rw [if_neg hc188] at h
            refine ev_zff rfl (lc_eq_f hc188) ?_
            refine ev_rn (n := 1) (i2 := 831) (L2 := [some (.ref 1001), some (.ref 0), some (.ref 157), some (.int v3)]) (st2 := [.int (0 : Int32)]) (g2 := q187.2) cdE_303 rfl ?_
            cases h
            cases hb
            exact ev_ret rfl rt_0
        · rw [if_neg hi186] at h
          cases h
      · rw [if_neg hi185] at h
        cases h
    · rw [if_neg hi183] at h
      cases h
  · rw [if_neg hi182] at h
    cases h
def j_La_law_776 (Lx : Nat) (v3 : Int32) (g : M2) : Option ((Int32 × M2) ⊕ (M2 ⊕ (Int32 × M2))) := (if inb (v3 + (1 : Int32)) Lx then (if inb (v3 + (2 : Int32)) Lx then ((f_Da_cutPower (g.1 1001 (v3 + (1 : Int32)).toNatClampNeg) (g.1 1001 (v3 + (2 : Int32)).toNatClampNeg) g).bind fun q191 => (if inb (v3 + (1 : Int32)) Lx then (if inb (v3 + (2 : Int32)) Lx then ((f_Mo_cutPower (q191.2.1 1001 (v3 + (1 : Int32)).toNatClampNeg) (q191.2.1 1001 (v3 + (2 : Int32)).toNatClampNeg) q191.2).bind fun q194 => (if q191.1 = q194.1 then some (.inl ((v3 + (6 : Int32)), q194.2)) else some (.inr (.inr ((0 : Int32), q194.2))))) else none) else none)) else none) else none)
set_option maxRecDepth 100000 in
theorem tj_La_law_776 {Lx : Nat}  (v3 : Int32)  (g : M2) {b : (Int32 × M2) ⊕ (M2 ⊕ (Int32 × M2))} {o : Option Value × M2} (h : j_La_law_776 Lx v3 g = some b) (hb : Sum.elim (fun s => Ev Lx 303 cd_303 10 [some (.ref 1001), some (.ref 0), some (.ref 157), some (.int s.1)] [] s.2 o) (Sum.elim (fun e => Ev Lx 303 cd_303 1260 [] [] e o) (fun r => o = (some (.int r.1), r.2))) b) : Ev Lx 303 cd_303 776 [some (.ref 1001), some (.ref 0), some (.ref 157), some (.int v3)] [] g o := by
  unfold j_La_law_776 at h
  refine ev_rn (n := 5) (i2 := 781) (L2 := [some (.ref 1001), some (.ref 0), some (.ref 157), some (.int v3)]) (st2 := [.int (v3 + (1 : Int32)), .ref 1001, .ref 0]) (g2 := g) cdE_303 rfl ?_
  by_cases hi189 : inb (v3 + (1 : Int32)) Lx
  · rw [if_pos hi189] at h
    refine ev_iaload (v := .int (g.1 1001 (v3 + (1 : Int32)).toNatClampNeg)) rfl rfl (by decide) hi189 rfl ?_
    refine ev_rn (n := 4) (i2 := 786) (L2 := [some (.ref 1001), some (.ref 0), some (.ref 157), some (.int v3)]) (st2 := [.int (v3 + (2 : Int32)), .ref 1001, .int (g.1 1001 (v3 + (1 : Int32)).toNatClampNeg), .ref 0]) (g2 := g) cdE_303 rfl ?_
    by_cases hi190 : inb (v3 + (2 : Int32)) Lx
    · rw [if_pos hi190] at h
      refine ev_iaload (v := .int (g.1 1001 (v3 + (2 : Int32)).toNatClampNeg)) rfl rfl (by decide) hi190 rfl ?_
      obtain ⟨q191, hq191, h⟩ := Option.bind_eq_some_iff.mp h
      refine ev_call rfl cdE_220 rfl rfl rfl (e_Da_cutPower (g.1 1001 (v3 + (1 : Int32)).toNatClampNeg) (g.1 1001 (v3 + (2 : Int32)).toNatClampNeg)  g hq191) ?_
      refine ev_rn (n := 5) (i2 := 793) (L2 := [some (.ref 1001), some (.ref 0), some (.ref 157), some (.int v3)]) (st2 := [.int (v3 + (1 : Int32)), .ref 1001, .ref 157, .long q191.1]) (g2 := q191.2) cdE_303 rfl ?_
      by_cases hi192 : inb (v3 + (1 : Int32)) Lx
      · rw [if_pos hi192] at h
        refine ev_iaload (v := .int (q191.2.1 1001 (v3 + (1 : Int32)).toNatClampNeg)) rfl rfl (by decide) hi192 rfl ?_
        refine ev_rn (n := 4) (i2 := 798) (L2 := [some (.ref 1001), some (.ref 0), some (.ref 157), some (.int v3)]) (st2 := [.int (v3 + (2 : Int32)), .ref 1001, .int (q191.2.1 1001 (v3 + (1 : Int32)).toNatClampNeg), .ref 157, .long q191.1]) (g2 := q191.2) cdE_303 rfl ?_
        by_cases hi193 : inb (v3 + (2 : Int32)) Lx
        · rw [if_pos hi193] at h
          refine ev_iaload (v := .int (q191.2.1 1001 (v3 + (2 : Int32)).toNatClampNeg)) rfl rfl (by decide) hi193 rfl ?_
          obtain ⟨q194, hq194, h⟩ := Option.bind_eq_some_iff.mp h
          refine ev_call rfl cdE_221 rfl rfl rfl (e_Mo_cutPower (q191.2.1 1001 (v3 + (1 : Int32)).toNatClampNeg) (q191.2.1 1001 (v3 + (2 : Int32)).toNatClampNeg)  q191.2 hq194) ?_
          refine ev_rn (n := 1) (i2 := 801) (L2 := [some (.ref 1001), some (.ref 0), some (.ref 157), some (.int v3)]) (st2 := [.int (lg_cmp q191.1 q194.1)]) (g2 := q194.2) cdE_303 rfl ?_
          by_cases hc195 : q191.1 = q194.1
          · rw [if_pos hc195] at h
            refine ev_zft cdE_303 rfl (lc_eq_t hc195) ?_
            refine ev_rn (n := 2) (i2 := 10) (L2 := [some (.ref 1001), some (.ref 0), some (.ref 157), some (.int (v3 + (6 : Int32)))]) (st2 := []) (g2 := q194.2) cdE_303 rfl ?_
            cases h
            exact ev_wk (L := [some (.ref 1001), some (.ref 0), some (.ref 157), some (.int (v3 + (6 : Int32)))]) hb ⟨rfl, ⟨rfl, ⟨rfl, ⟨rfl, trivial⟩⟩⟩⟩
          · rw [if_neg hc195] at h
            refine ev_zff rfl (lc_eq_f hc195) ?_
            refine ev_rn (n := 1) (i2 := 803) (L2 := [some (.ref 1001), some (.ref 0), some (.ref 157), some (.int v3)]) (st2 := [.int (0 : Int32)]) (g2 := q194.2) cdE_303 rfl ?_
            cases h
            cases hb
            exact ev_ret rfl rt_0
        · rw [if_neg hi193] at h
          cases h
      · rw [if_neg hi192] at h
        cases h
    · rw [if_neg hi190] at h
      cases h
  · rw [if_neg hi189] at h
    cases h
def j_La_law_748 (Lx : Nat) (v3 : Int32) (g : M2) : Option ((Int32 × M2) ⊕ (M2 ⊕ (Int32 × M2))) := (if inb (v3 + (1 : Int32)) Lx then (if inb (v3 + (2 : Int32)) Lx then ((f_Da_cutGain (g.1 1001 (v3 + (1 : Int32)).toNatClampNeg) (g.1 1001 (v3 + (2 : Int32)).toNatClampNeg) g).bind fun q198 => (if inb (v3 + (1 : Int32)) Lx then (if inb (v3 + (2 : Int32)) Lx then ((f_Mo_cutGain (q198.2.1 1001 (v3 + (1 : Int32)).toNatClampNeg) (q198.2.1 1001 (v3 + (2 : Int32)).toNatClampNeg) q198.2).bind fun q201 => (if q198.1 = q201.1 then some (.inl ((v3 + (6 : Int32)), q201.2)) else some (.inr (.inr ((0 : Int32), q201.2))))) else none) else none)) else none) else none)
set_option maxRecDepth 100000 in
theorem tj_La_law_748 {Lx : Nat}  (v3 : Int32)  (g : M2) {b : (Int32 × M2) ⊕ (M2 ⊕ (Int32 × M2))} {o : Option Value × M2} (h : j_La_law_748 Lx v3 g = some b) (hb : Sum.elim (fun s => Ev Lx 303 cd_303 10 [some (.ref 1001), some (.ref 0), some (.ref 157), some (.int s.1)] [] s.2 o) (Sum.elim (fun e => Ev Lx 303 cd_303 1260 [] [] e o) (fun r => o = (some (.int r.1), r.2))) b) : Ev Lx 303 cd_303 748 [some (.ref 1001), some (.ref 0), some (.ref 157), some (.int v3)] [] g o := by
  unfold j_La_law_748 at h
  refine ev_rn (n := 5) (i2 := 753) (L2 := [some (.ref 1001), some (.ref 0), some (.ref 157), some (.int v3)]) (st2 := [.int (v3 + (1 : Int32)), .ref 1001, .ref 0]) (g2 := g) cdE_303 rfl ?_
  by_cases hi196 : inb (v3 + (1 : Int32)) Lx
  · rw [if_pos hi196] at h
    refine ev_iaload (v := .int (g.1 1001 (v3 + (1 : Int32)).toNatClampNeg)) rfl rfl (by decide) hi196 rfl ?_
    refine ev_rn (n := 4) (i2 := 758) (L2 := [some (.ref 1001), some (.ref 0), some (.ref 157), some (.int v3)]) (st2 := [.int (v3 + (2 : Int32)), .ref 1001, .int (g.1 1001 (v3 + (1 : Int32)).toNatClampNeg), .ref 0]) (g2 := g) cdE_303 rfl ?_
    by_cases hi197 : inb (v3 + (2 : Int32)) Lx
    · rw [if_pos hi197] at h
      refine ev_iaload (v := .int (g.1 1001 (v3 + (2 : Int32)).toNatClampNeg)) rfl rfl (by decide) hi197 rfl ?_
      obtain ⟨q198, hq198, h⟩ := Option.bind_eq_some_iff.mp h
      refine ev_call rfl cdE_217 rfl rfl rfl (e_Da_cutGain (g.1 1001 (v3 + (1 : Int32)).toNatClampNeg) (g.1 1001 (v3 + (2 : Int32)).toNatClampNeg)  g hq198) ?_
      refine ev_rn (n := 5) (i2 := 765) (L2 := [some (.ref 1001), some (.ref 0), some (.ref 157), some (.int v3)]) (st2 := [.int (v3 + (1 : Int32)), .ref 1001, .ref 157, .long q198.1]) (g2 := q198.2) cdE_303 rfl ?_
      by_cases hi199 : inb (v3 + (1 : Int32)) Lx
      · rw [if_pos hi199] at h
        refine ev_iaload (v := .int (q198.2.1 1001 (v3 + (1 : Int32)).toNatClampNeg)) rfl rfl (by decide) hi199 rfl ?_
        refine ev_rn (n := 4) (i2 := 770) (L2 := [some (.ref 1001), some (.ref 0), some (.ref 157), some (.int v3)]) (st2 := [.int (v3 + (2 : Int32)), .ref 1001, .int (q198.2.1 1001 (v3 + (1 : Int32)).toNatClampNeg), .ref 157, .long q198.1]) (g2 := q198.2) cdE_303 rfl ?_
        by_cases hi200 : inb (v3 + (2 : Int32)) Lx
        · rw [if_pos hi200] at h
          refine ev_iaload (v := .int (q198.2.1 1001 (v3 + (2 : Int32)).toNatClampNeg)) rfl rfl (by decide) hi200 rfl ?_
          obtain ⟨q201, hq201, h⟩ := Option.bind_eq_some_iff.mp h
          refine ev_call rfl cdE_219 rfl rfl rfl (e_Mo_cutGain (q198.2.1 1001 (v3 + (1 : Int32)).toNatClampNeg) (q198.2.1 1001 (v3 + (2 : Int32)).toNatClampNeg)  q198.2 hq201) ?_
          refine ev_rn (n := 1) (i2 := 773) (L2 := [some (.ref 1001), some (.ref 0), some (.ref 157), some (.int v3)]) (st2 := [.int (lg_cmp q198.1 q201.1)]) (g2 := q201.2) cdE_303 rfl ?_
          by_cases hc202 : q198.1 = q201.1
          · rw [if_pos hc202] at h
            refine ev_zft cdE_303 rfl (lc_eq_t hc202) ?_
            refine ev_rn (n := 2) (i2 := 10) (L2 := [some (.ref 1001), some (.ref 0), some (.ref 157), some (.int (v3 + (6 : Int32)))]) (st2 := []) (g2 := q201.2) cdE_303 rfl ?_
            cases h
            exact ev_wk (L := [some (.ref 1001), some (.ref 0), some (.ref 157), some (.int (v3 + (6 : Int32)))]) hb ⟨rfl, ⟨rfl, ⟨rfl, ⟨rfl, trivial⟩⟩⟩⟩
          · rw [if_neg hc202] at h
            refine ev_zff rfl (lc_eq_f hc202) ?_
            refine ev_rn (n := 1) (i2 := 775) (L2 := [some (.ref 1001), some (.ref 0), some (.ref 157), some (.int v3)]) (st2 := [.int (0 : Int32)]) (g2 := q201.2) cdE_303 rfl ?_
            cases h
            cases hb
            exact ev_ret rfl rt_0
        · rw [if_neg hi200] at h
          cases h
      · rw [if_neg hi199] at h
        cases h
    · rw [if_neg hi197] at h
      cases h
  · rw [if_neg hi196] at h
    cases h
def j_La_law_720 (Lx : Nat) (v3 : Int32) (g : M2) : Option ((Int32 × M2) ⊕ (M2 ⊕ (Int32 × M2))) := (if inb (v3 + (1 : Int32)) Lx then (if inb (v3 + (2 : Int32)) Lx then ((f_Da_cut (g.1 1001 (v3 + (1 : Int32)).toNatClampNeg) (g.1 1001 (v3 + (2 : Int32)).toNatClampNeg) g).bind fun q205 => (if inb (v3 + (1 : Int32)) Lx then (if inb (v3 + (2 : Int32)) Lx then ((f_Mo_cut (q205.2.1 1001 (v3 + (1 : Int32)).toNatClampNeg) (q205.2.1 1001 (v3 + (2 : Int32)).toNatClampNeg) q205.2).bind fun q208 => (if q205.1 = q208.1 then some (.inl ((v3 + (6 : Int32)), q208.2)) else some (.inr (.inr ((0 : Int32), q208.2))))) else none) else none)) else none) else none)
set_option maxRecDepth 100000 in
theorem tj_La_law_720 {Lx : Nat}  (v3 : Int32)  (g : M2) {b : (Int32 × M2) ⊕ (M2 ⊕ (Int32 × M2))} {o : Option Value × M2} (h : j_La_law_720 Lx v3 g = some b) (hb : Sum.elim (fun s => Ev Lx 303 cd_303 10 [some (.ref 1001), some (.ref 0), some (.ref 157), some (.int s.1)] [] s.2 o) (Sum.elim (fun e => Ev Lx 303 cd_303 1260 [] [] e o) (fun r => o = (some (.int r.1), r.2))) b) : Ev Lx 303 cd_303 720 [some (.ref 1001), some (.ref 0), some (.ref 157), some (.int v3)] [] g o := by
  unfold j_La_law_720 at h
  refine ev_rn (n := 5) (i2 := 725) (L2 := [some (.ref 1001), some (.ref 0), some (.ref 157), some (.int v3)]) (st2 := [.int (v3 + (1 : Int32)), .ref 1001, .ref 0]) (g2 := g) cdE_303 rfl ?_
  by_cases hi203 : inb (v3 + (1 : Int32)) Lx
  · rw [if_pos hi203] at h
    refine ev_iaload (v := .int (g.1 1001 (v3 + (1 : Int32)).toNatClampNeg)) rfl rfl (by decide) hi203 rfl ?_
    refine ev_rn (n := 4) (i2 := 730) (L2 := [some (.ref 1001), some (.ref 0), some (.ref 157), some (.int v3)]) (st2 := [.int (v3 + (2 : Int32)), .ref 1001, .int (g.1 1001 (v3 + (1 : Int32)).toNatClampNeg), .ref 0]) (g2 := g) cdE_303 rfl ?_
    by_cases hi204 : inb (v3 + (2 : Int32)) Lx
    · rw [if_pos hi204] at h
      refine ev_iaload (v := .int (g.1 1001 (v3 + (2 : Int32)).toNatClampNeg)) rfl rfl (by decide) hi204 rfl ?_
      obtain ⟨q205, hq205, h⟩ := Option.bind_eq_some_iff.mp h
      refine ev_call rfl cdE_213 rfl rfl rfl (e_Da_cut (g.1 1001 (v3 + (1 : Int32)).toNatClampNeg) (g.1 1001 (v3 + (2 : Int32)).toNatClampNeg)  g hq205) ?_
      refine ev_rn (n := 5) (i2 := 737) (L2 := [some (.ref 1001), some (.ref 0), some (.ref 157), some (.int v3)]) (st2 := [.int (v3 + (1 : Int32)), .ref 1001, .ref 157, .long q205.1]) (g2 := q205.2) cdE_303 rfl ?_
      by_cases hi206 : inb (v3 + (1 : Int32)) Lx
      · rw [if_pos hi206] at h
        refine ev_iaload (v := .int (q205.2.1 1001 (v3 + (1 : Int32)).toNatClampNeg)) rfl rfl (by decide) hi206 rfl ?_
        refine ev_rn (n := 4) (i2 := 742) (L2 := [some (.ref 1001), some (.ref 0), some (.ref 157), some (.int v3)]) (st2 := [.int (v3 + (2 : Int32)), .ref 1001, .int (q205.2.1 1001 (v3 + (1 : Int32)).toNatClampNeg), .ref 157, .long q205.1]) (g2 := q205.2) cdE_303 rfl ?_
        by_cases hi207 : inb (v3 + (2 : Int32)) Lx
        · rw [if_pos hi207] at h
          refine ev_iaload (v := .int (q205.2.1 1001 (v3 + (2 : Int32)).toNatClampNeg)) rfl rfl (by decide) hi207 rfl ?_
          obtain ⟨q208, hq208, h⟩ := Option.bind_eq_some_iff.mp h
          refine ev_call rfl cdE_216 rfl rfl rfl (e_Mo_cut (q205.2.1 1001 (v3 + (1 : Int32)).toNatClampNeg) (q205.2.1 1001 (v3 + (2 : Int32)).toNatClampNeg)  q205.2 hq208) ?_
          refine ev_rn (n := 1) (i2 := 745) (L2 := [some (.ref 1001), some (.ref 0), some (.ref 157), some (.int v3)]) (st2 := [.int (lg_cmp q205.1 q208.1)]) (g2 := q208.2) cdE_303 rfl ?_
          by_cases hc209 : q205.1 = q208.1
          · rw [if_pos hc209] at h
            refine ev_zft cdE_303 rfl (lc_eq_t hc209) ?_
            refine ev_rn (n := 2) (i2 := 10) (L2 := [some (.ref 1001), some (.ref 0), some (.ref 157), some (.int (v3 + (6 : Int32)))]) (st2 := []) (g2 := q208.2) cdE_303 rfl ?_
            cases h
            exact ev_wk (L := [some (.ref 1001), some (.ref 0), some (.ref 157), some (.int (v3 + (6 : Int32)))]) hb ⟨rfl, ⟨rfl, ⟨rfl, ⟨rfl, trivial⟩⟩⟩⟩
          · rw [if_neg hc209] at h
            refine ev_zff rfl (lc_eq_f hc209) ?_
            refine ev_rn (n := 1) (i2 := 747) (L2 := [some (.ref 1001), some (.ref 0), some (.ref 157), some (.int v3)]) (st2 := [.int (0 : Int32)]) (g2 := q208.2) cdE_303 rfl ?_
            cases h
            cases hb
            exact ev_ret rfl rt_0
        · rw [if_neg hi207] at h
          cases h
      · rw [if_neg hi206] at h
        cases h
    · rw [if_neg hi204] at h
      cases h
  · rw [if_neg hi203] at h
    cases h
def j_La_law_713 (Lx : Nat) (v3 : Int32) (g : M2) : Option ((Int32 × M2) ⊕ (M2 ⊕ (Int32 × M2))) := ((f_Da_weakest g).bind fun q210 => ((f_Mo_weakest q210.2).bind fun q211 => (if q210.1 = q211.1 then some (.inl ((v3 + (6 : Int32)), q211.2)) else some (.inr (.inr ((0 : Int32), q211.2))))))
set_option maxRecDepth 100000 in
theorem tj_La_law_713 {Lx : Nat}  (v3 : Int32)  (g : M2) {b : (Int32 × M2) ⊕ (M2 ⊕ (Int32 × M2))} {o : Option Value × M2} (h : j_La_law_713 Lx v3 g = some b) (hb : Sum.elim (fun s => Ev Lx 303 cd_303 10 [some (.ref 1001), some (.ref 0), some (.ref 157), some (.int s.1)] [] s.2 o) (Sum.elim (fun e => Ev Lx 303 cd_303 1260 [] [] e o) (fun r => o = (some (.int r.1), r.2))) b) : Ev Lx 303 cd_303 713 [some (.ref 1001), some (.ref 0), some (.ref 157), some (.int v3)] [] g o := by
  unfold j_La_law_713 at h
  refine ev_rn (n := 1) (i2 := 714) (L2 := [some (.ref 1001), some (.ref 0), some (.ref 157), some (.int v3)]) (st2 := [.ref 0]) (g2 := g) cdE_303 rfl ?_
  obtain ⟨q210, hq210, h⟩ := Option.bind_eq_some_iff.mp h
  refine ev_call rfl cdE_207 rfl rfl rfl (e_Da_weakest   g hq210) ?_
  refine ev_rn (n := 1) (i2 := 716) (L2 := [some (.ref 1001), some (.ref 0), some (.ref 157), some (.int v3)]) (st2 := [.ref 157, .int q210.1]) (g2 := q210.2) cdE_303 rfl ?_
  obtain ⟨q211, hq211, h⟩ := Option.bind_eq_some_iff.mp h
  refine ev_call rfl cdE_208 rfl rfl rfl (e_Mo_weakest   q210.2 hq211) ?_
  by_cases hc212 : q210.1 = q211.1
  · rw [if_pos hc212] at h
    refine ev_ift cdE_303 rfl (cn_t hc212) ?_
    refine ev_rn (n := 2) (i2 := 10) (L2 := [some (.ref 1001), some (.ref 0), some (.ref 157), some (.int (v3 + (6 : Int32)))]) (st2 := []) (g2 := q211.2) cdE_303 rfl ?_
    cases h
    exact ev_wk (L := [some (.ref 1001), some (.ref 0), some (.ref 157), some (.int (v3 + (6 : Int32)))]) hb ⟨rfl, ⟨rfl, ⟨rfl, ⟨rfl, trivial⟩⟩⟩⟩
  · rw [if_neg hc212] at h
    refine ev_iff rfl (cn_f hc212) ?_
    refine ev_rn (n := 1) (i2 := 719) (L2 := [some (.ref 1001), some (.ref 0), some (.ref 157), some (.int v3)]) (st2 := [.int (0 : Int32)]) (g2 := q211.2) cdE_303 rfl ?_
    cases h
    cases hb
    exact ev_ret rfl rt_0
def j_La_law_675 (Lx : Nat) (v3 : Int32) (g : M2) : Option ((Int32 × M2) ⊕ (M2 ⊕ (Int32 × M2))) := (if inb (v3 + (1 : Int32)) Lx then (if inb (v3 + (2 : Int32)) Lx then (if inb (v3 + (3 : Int32)) Lx then ((f_Da_leak (g.1 1001 (v3 + (1 : Int32)).toNatClampNeg) (g.1 1001 (v3 + (2 : Int32)).toNatClampNeg) (g.1 1001 (v3 + (3 : Int32)).toNatClampNeg) g).bind fun q216 => (if inb (v3 + (1 : Int32)) Lx then (if inb (v3 + (2 : Int32)) Lx then (if inb (v3 + (3 : Int32)) Lx then ((f_Mo_leak (q216.2.1 1001 (v3 + (1 : Int32)).toNatClampNeg) (q216.2.1 1001 (v3 + (2 : Int32)).toNatClampNeg) (q216.2.1 1001 (v3 + (3 : Int32)).toNatClampNeg) q216.2).bind fun q220 => (if q216.1 = q220.1 then some (.inl ((v3 + (6 : Int32)), q220.2)) else some (.inr (.inr ((0 : Int32), q220.2))))) else none) else none) else none)) else none) else none) else none)
set_option maxRecDepth 100000 in
theorem tj_La_law_675 {Lx : Nat}  (v3 : Int32)  (g : M2) {b : (Int32 × M2) ⊕ (M2 ⊕ (Int32 × M2))} {o : Option Value × M2} (h : j_La_law_675 Lx v3 g = some b) (hb : Sum.elim (fun s => Ev Lx 303 cd_303 10 [some (.ref 1001), some (.ref 0), some (.ref 157), some (.int s.1)] [] s.2 o) (Sum.elim (fun e => Ev Lx 303 cd_303 1260 [] [] e o) (fun r => o = (some (.int r.1), r.2))) b) : Ev Lx 303 cd_303 675 [some (.ref 1001), some (.ref 0), some (.ref 157), some (.int v3)] [] g o := by
  unfold j_La_law_675 at h
  refine ev_rn (n := 5) (i2 := 680) (L2 := [some (.ref 1001), some (.ref 0), some (.ref 157), some (.int v3)]) (st2 := [.int (v3 + (1 : Int32)), .ref 1001, .ref 0]) (g2 := g) cdE_303 rfl ?_
  by_cases hi213 : inb (v3 + (1 : Int32)) Lx
  · rw [if_pos hi213] at h
    refine ev_iaload (v := .int (g.1 1001 (v3 + (1 : Int32)).toNatClampNeg)) rfl rfl (by decide) hi213 rfl ?_
    refine ev_rn (n := 4) (i2 := 685) (L2 := [some (.ref 1001), some (.ref 0), some (.ref 157), some (.int v3)]) (st2 := [.int (v3 + (2 : Int32)), .ref 1001, .int (g.1 1001 (v3 + (1 : Int32)).toNatClampNeg), .ref 0]) (g2 := g) cdE_303 rfl ?_
    by_cases hi214 : inb (v3 + (2 : Int32)) Lx
    · rw [if_pos hi214] at h
      refine ev_iaload (v := .int (g.1 1001 (v3 + (2 : Int32)).toNatClampNeg)) rfl rfl (by decide) hi214 rfl ?_
      refine ev_rn (n := 4) (i2 := 690) (L2 := [some (.ref 1001), some (.ref 0), some (.ref 157), some (.int v3)]) (st2 := [.int (v3 + (3 : Int32)), .ref 1001, .int (g.1 1001 (v3 + (2 : Int32)).toNatClampNeg), .int (g.1 1001 (v3 + (1 : Int32)).toNatClampNeg), .ref 0]) (g2 := g) cdE_303 rfl ?_
      by_cases hi215 : inb (v3 + (3 : Int32)) Lx
      · rw [if_pos hi215] at h
        refine ev_iaload (v := .int (g.1 1001 (v3 + (3 : Int32)).toNatClampNeg)) rfl rfl (by decide) hi215 rfl ?_
        obtain ⟨q216, hq216, h⟩ := Option.bind_eq_some_iff.mp h
        refine ev_call rfl cdE_204 rfl rfl rfl (e_Da_leak (g.1 1001 (v3 + (1 : Int32)).toNatClampNeg) (g.1 1001 (v3 + (2 : Int32)).toNatClampNeg) (g.1 1001 (v3 + (3 : Int32)).toNatClampNeg)  g hq216) ?_
        refine ev_rn (n := 5) (i2 := 697) (L2 := [some (.ref 1001), some (.ref 0), some (.ref 157), some (.int v3)]) (st2 := [.int (v3 + (1 : Int32)), .ref 1001, .ref 157, .long q216.1]) (g2 := q216.2) cdE_303 rfl ?_
        by_cases hi217 : inb (v3 + (1 : Int32)) Lx
        · rw [if_pos hi217] at h
          refine ev_iaload (v := .int (q216.2.1 1001 (v3 + (1 : Int32)).toNatClampNeg)) rfl rfl (by decide) hi217 rfl ?_
          refine ev_rn (n := 4) (i2 := 702) (L2 := [some (.ref 1001), some (.ref 0), some (.ref 157), some (.int v3)]) (st2 := [.int (v3 + (2 : Int32)), .ref 1001, .int (q216.2.1 1001 (v3 + (1 : Int32)).toNatClampNeg), .ref 157, .long q216.1]) (g2 := q216.2) cdE_303 rfl ?_
          by_cases hi218 : inb (v3 + (2 : Int32)) Lx
          · rw [if_pos hi218] at h
            refine ev_iaload (v := .int (q216.2.1 1001 (v3 + (2 : Int32)).toNatClampNeg)) rfl rfl (by decide) hi218 rfl ?_
            refine ev_rn (n := 4) (i2 := 707) (L2 := [some (.ref 1001), some (.ref 0), some (.ref 157), some (.int v3)]) (st2 := [.int (v3 + (3 : Int32)), .ref 1001, .int (q216.2.1 1001 (v3 + (2 : Int32)).toNatClampNeg), .int (q216.2.1 1001 (v3 + (1 : Int32)).toNatClampNeg), .ref 157, .long q216.1]) (g2 := q216.2) cdE_303 rfl ?_
            by_cases hi219 : inb (v3 + (3 : Int32)) Lx
            · rw [if_pos hi219] at h
              refine ev_iaload (v := .int (q216.2.1 1001 (v3 + (3 : Int32)).toNatClampNeg)) rfl rfl (by decide) hi219 rfl ?_
              obtain ⟨q220, hq220, h⟩ := Option.bind_eq_some_iff.mp h
              refine ev_call rfl cdE_206 rfl rfl rfl (e_Mo_leak (q216.2.1 1001 (v3 + (1 : Int32)).toNatClampNeg) (q216.2.1 1001 (v3 + (2 : Int32)).toNatClampNeg) (q216.2.1 1001 (v3 + (3 : Int32)).toNatClampNeg)  q216.2 hq220) ?_
              refine ev_rn (n := 1) (i2 := 710) (L2 := [some (.ref 1001), some (.ref 0), some (.ref 157), some (.int v3)]) (st2 := [.int (lg_cmp q216.1 q220.1)]) (g2 := q220.2) cdE_303 rfl ?_
              by_cases hc221 : q216.1 = q220.1
              · rw [if_pos hc221] at h
                refine ev_zft cdE_303 rfl (lc_eq_t hc221) ?_
                refine ev_rn (n := 2) (i2 := 10) (L2 := [some (.ref 1001), some (.ref 0), some (.ref 157), some (.int (v3 + (6 : Int32)))]) (st2 := []) (g2 := q220.2) cdE_303 rfl ?_
                cases h
                exact ev_wk (L := [some (.ref 1001), some (.ref 0), some (.ref 157), some (.int (v3 + (6 : Int32)))]) hb ⟨rfl, ⟨rfl, ⟨rfl, ⟨rfl, trivial⟩⟩⟩⟩
              · rw [if_neg hc221] at h
                refine ev_zff rfl (lc_eq_f hc221) ?_
                refine ev_rn (n := 1) (i2 := 712) (L2 := [some (.ref 1001), some (.ref 0), some (.ref 157), some (.int v3)]) (st2 := [.int (0 : Int32)]) (g2 := q220.2) cdE_303 rfl ?_
                cases h
                cases hb
                exact ev_ret rfl rt_0
            · rw [if_neg hi219] at h
              cases h
          · rw [if_neg hi218] at h
            cases h
        · rw [if_neg hi217] at h
          cases h
      · rw [if_neg hi215] at h
        cases h
    · rw [if_neg hi214] at h
      cases h
  · rw [if_neg hi213] at h
    cases h
def j_La_law_658 (Lx : Nat) (v3 : Int32) (g : M2) : Option ((Int32 × M2) ⊕ (M2 ⊕ (Int32 × M2))) := (if inb (v3 + (1 : Int32)) Lx then ((f_Da_fewest (g.1 1001 (v3 + (1 : Int32)).toNatClampNeg) g).bind fun q223 => (if inb (v3 + (1 : Int32)) Lx then ((f_Mo_fewest (q223.2.1 1001 (v3 + (1 : Int32)).toNatClampNeg) q223.2).bind fun q225 => (if q223.1 = q225.1 then some (.inl ((v3 + (6 : Int32)), q225.2)) else some (.inr (.inr ((0 : Int32), q225.2))))) else none)) else none)
set_option maxRecDepth 100000 in
theorem tj_La_law_658 {Lx : Nat}  (v3 : Int32)  (g : M2) {b : (Int32 × M2) ⊕ (M2 ⊕ (Int32 × M2))} {o : Option Value × M2} (h : j_La_law_658 Lx v3 g = some b) (hb : Sum.elim (fun s => Ev Lx 303 cd_303 10 [some (.ref 1001), some (.ref 0), some (.ref 157), some (.int s.1)] [] s.2 o) (Sum.elim (fun e => Ev Lx 303 cd_303 1260 [] [] e o) (fun r => o = (some (.int r.1), r.2))) b) : Ev Lx 303 cd_303 658 [some (.ref 1001), some (.ref 0), some (.ref 157), some (.int v3)] [] g o := by
  unfold j_La_law_658 at h
  refine ev_rn (n := 5) (i2 := 663) (L2 := [some (.ref 1001), some (.ref 0), some (.ref 157), some (.int v3)]) (st2 := [.int (v3 + (1 : Int32)), .ref 1001, .ref 0]) (g2 := g) cdE_303 rfl ?_
  by_cases hi222 : inb (v3 + (1 : Int32)) Lx
  · rw [if_pos hi222] at h
    refine ev_iaload (v := .int (g.1 1001 (v3 + (1 : Int32)).toNatClampNeg)) rfl rfl (by decide) hi222 rfl ?_
    obtain ⟨q223, hq223, h⟩ := Option.bind_eq_some_iff.mp h
    refine ev_call rfl cdE_202 rfl rfl rfl (e_Da_fewest (g.1 1001 (v3 + (1 : Int32)).toNatClampNeg)  g hq223) ?_
    refine ev_rn (n := 5) (i2 := 670) (L2 := [some (.ref 1001), some (.ref 0), some (.ref 157), some (.int v3)]) (st2 := [.int (v3 + (1 : Int32)), .ref 1001, .ref 157, .int q223.1]) (g2 := q223.2) cdE_303 rfl ?_
    by_cases hi224 : inb (v3 + (1 : Int32)) Lx
    · rw [if_pos hi224] at h
      refine ev_iaload (v := .int (q223.2.1 1001 (v3 + (1 : Int32)).toNatClampNeg)) rfl rfl (by decide) hi224 rfl ?_
      obtain ⟨q225, hq225, h⟩ := Option.bind_eq_some_iff.mp h
      refine ev_call rfl cdE_203 rfl rfl rfl (e_Mo_fewest (q223.2.1 1001 (v3 + (1 : Int32)).toNatClampNeg)  q223.2 hq225) ?_
      by_cases hc226 : q223.1 = q225.1
      · rw [if_pos hc226] at h
        refine ev_ift cdE_303 rfl (cn_t hc226) ?_
        refine ev_rn (n := 2) (i2 := 10) (L2 := [some (.ref 1001), some (.ref 0), some (.ref 157), some (.int (v3 + (6 : Int32)))]) (st2 := []) (g2 := q225.2) cdE_303 rfl ?_
        cases h
        exact ev_wk (L := [some (.ref 1001), some (.ref 0), some (.ref 157), some (.int (v3 + (6 : Int32)))]) hb ⟨rfl, ⟨rfl, ⟨rfl, ⟨rfl, trivial⟩⟩⟩⟩
      · rw [if_neg hc226] at h
        refine ev_iff rfl (cn_f hc226) ?_
        refine ev_rn (n := 1) (i2 := 674) (L2 := [some (.ref 1001), some (.ref 0), some (.ref 157), some (.int v3)]) (st2 := [.int (0 : Int32)]) (g2 := q225.2) cdE_303 rfl ?_
        cases h
        cases hb
        exact ev_ret rfl rt_0
    · rw [if_neg hi224] at h
      cases h
  · rw [if_neg hi222] at h
    cases h
def j_La_law_641 (Lx : Nat) (v3 : Int32) (g : M2) : Option ((Int32 × M2) ⊕ (M2 ⊕ (Int32 × M2))) := (if inb (v3 + (1 : Int32)) Lx then ((f_Da_frail (g.1 1001 (v3 + (1 : Int32)).toNatClampNeg) g).bind fun q228 => (if inb (v3 + (1 : Int32)) Lx then ((f_Mo_frail (q228.2.1 1001 (v3 + (1 : Int32)).toNatClampNeg) q228.2).bind fun q230 => (if q228.1 = q230.1 then some (.inl ((v3 + (6 : Int32)), q230.2)) else some (.inr (.inr ((0 : Int32), q230.2))))) else none)) else none)
set_option maxRecDepth 100000 in
theorem tj_La_law_641 {Lx : Nat}  (v3 : Int32)  (g : M2) {b : (Int32 × M2) ⊕ (M2 ⊕ (Int32 × M2))} {o : Option Value × M2} (h : j_La_law_641 Lx v3 g = some b) (hb : Sum.elim (fun s => Ev Lx 303 cd_303 10 [some (.ref 1001), some (.ref 0), some (.ref 157), some (.int s.1)] [] s.2 o) (Sum.elim (fun e => Ev Lx 303 cd_303 1260 [] [] e o) (fun r => o = (some (.int r.1), r.2))) b) : Ev Lx 303 cd_303 641 [some (.ref 1001), some (.ref 0), some (.ref 157), some (.int v3)] [] g o := by
  unfold j_La_law_641 at h
  refine ev_rn (n := 5) (i2 := 646) (L2 := [some (.ref 1001), some (.ref 0), some (.ref 157), some (.int v3)]) (st2 := [.int (v3 + (1 : Int32)), .ref 1001, .ref 0]) (g2 := g) cdE_303 rfl ?_
  by_cases hi227 : inb (v3 + (1 : Int32)) Lx
  · rw [if_pos hi227] at h
    refine ev_iaload (v := .int (g.1 1001 (v3 + (1 : Int32)).toNatClampNeg)) rfl rfl (by decide) hi227 rfl ?_
    obtain ⟨q228, hq228, h⟩ := Option.bind_eq_some_iff.mp h
    refine ev_call rfl cdE_199 rfl rfl rfl (e_Da_frail (g.1 1001 (v3 + (1 : Int32)).toNatClampNeg)  g hq228) ?_
    refine ev_rn (n := 5) (i2 := 653) (L2 := [some (.ref 1001), some (.ref 0), some (.ref 157), some (.int v3)]) (st2 := [.int (v3 + (1 : Int32)), .ref 1001, .ref 157, .int q228.1]) (g2 := q228.2) cdE_303 rfl ?_
    by_cases hi229 : inb (v3 + (1 : Int32)) Lx
    · rw [if_pos hi229] at h
      refine ev_iaload (v := .int (q228.2.1 1001 (v3 + (1 : Int32)).toNatClampNeg)) rfl rfl (by decide) hi229 rfl ?_
      obtain ⟨q230, hq230, h⟩ := Option.bind_eq_some_iff.mp h
      refine ev_call rfl cdE_201 rfl rfl rfl (e_Mo_frail (q228.2.1 1001 (v3 + (1 : Int32)).toNatClampNeg)  q228.2 hq230) ?_
      by_cases hc231 : q228.1 = q230.1
      · rw [if_pos hc231] at h
        refine ev_ift cdE_303 rfl (cn_t hc231) ?_
        refine ev_rn (n := 2) (i2 := 10) (L2 := [some (.ref 1001), some (.ref 0), some (.ref 157), some (.int (v3 + (6 : Int32)))]) (st2 := []) (g2 := q230.2) cdE_303 rfl ?_
        cases h
        exact ev_wk (L := [some (.ref 1001), some (.ref 0), some (.ref 157), some (.int (v3 + (6 : Int32)))]) hb ⟨rfl, ⟨rfl, ⟨rfl, ⟨rfl, trivial⟩⟩⟩⟩
      · rw [if_neg hc231] at h
        refine ev_iff rfl (cn_f hc231) ?_
        refine ev_rn (n := 1) (i2 := 657) (L2 := [some (.ref 1001), some (.ref 0), some (.ref 157), some (.int v3)]) (st2 := [.int (0 : Int32)]) (g2 := q230.2) cdE_303 rfl ?_
        cases h
        cases hb
        exact ev_ret rfl rt_0
    · rw [if_neg hi229] at h
      cases h
  · rw [if_neg hi227] at h
    cases h
def j_La_law_634 (Lx : Nat) (v3 : Int32) (g : M2) : Option ((Int32 × M2) ⊕ (M2 ⊕ (Int32 × M2))) := ((f_Da_spares g).bind fun q232 => ((f_Mo_spares q232.2).bind fun q233 => (if q232.1 = q233.1 then some (.inl ((v3 + (6 : Int32)), q233.2)) else some (.inr (.inr ((0 : Int32), q233.2))))))
set_option maxRecDepth 100000 in
theorem tj_La_law_634 {Lx : Nat}  (v3 : Int32)  (g : M2) {b : (Int32 × M2) ⊕ (M2 ⊕ (Int32 × M2))} {o : Option Value × M2} (h : j_La_law_634 Lx v3 g = some b) (hb : Sum.elim (fun s => Ev Lx 303 cd_303 10 [some (.ref 1001), some (.ref 0), some (.ref 157), some (.int s.1)] [] s.2 o) (Sum.elim (fun e => Ev Lx 303 cd_303 1260 [] [] e o) (fun r => o = (some (.int r.1), r.2))) b) : Ev Lx 303 cd_303 634 [some (.ref 1001), some (.ref 0), some (.ref 157), some (.int v3)] [] g o := by
  unfold j_La_law_634 at h
  refine ev_rn (n := 1) (i2 := 635) (L2 := [some (.ref 1001), some (.ref 0), some (.ref 157), some (.int v3)]) (st2 := [.ref 0]) (g2 := g) cdE_303 rfl ?_
  obtain ⟨q232, hq232, h⟩ := Option.bind_eq_some_iff.mp h
  refine ev_call rfl cdE_196 rfl rfl rfl (e_Da_spares   g hq232) ?_
  refine ev_rn (n := 1) (i2 := 637) (L2 := [some (.ref 1001), some (.ref 0), some (.ref 157), some (.int v3)]) (st2 := [.ref 157, .int q232.1]) (g2 := q232.2) cdE_303 rfl ?_
  obtain ⟨q233, hq233, h⟩ := Option.bind_eq_some_iff.mp h
  refine ev_call rfl cdE_197 rfl rfl rfl (e_Mo_spares   q232.2 hq233) ?_
  by_cases hc234 : q232.1 = q233.1
  · rw [if_pos hc234] at h
    refine ev_ift cdE_303 rfl (cn_t hc234) ?_
    refine ev_rn (n := 2) (i2 := 10) (L2 := [some (.ref 1001), some (.ref 0), some (.ref 157), some (.int (v3 + (6 : Int32)))]) (st2 := []) (g2 := q233.2) cdE_303 rfl ?_
    cases h
    exact ev_wk (L := [some (.ref 1001), some (.ref 0), some (.ref 157), some (.int (v3 + (6 : Int32)))]) hb ⟨rfl, ⟨rfl, ⟨rfl, ⟨rfl, trivial⟩⟩⟩⟩
  · rw [if_neg hc234] at h
    refine ev_iff rfl (cn_f hc234) ?_
    refine ev_rn (n := 1) (i2 := 640) (L2 := [some (.ref 1001), some (.ref 0), some (.ref 157), some (.int v3)]) (st2 := [.int (0 : Int32)]) (g2 := q233.2) cdE_303 rfl ?_
    cases h
    cases hb
    exact ev_ret rfl rt_0
def j_La_law_607 (Lx : Nat) (v3 : Int32) (g : M2) : Option ((Int32 × M2) ⊕ (M2 ⊕ (Int32 × M2))) := (if inb (v3 + (1 : Int32)) Lx then (if inb (v3 + (2 : Int32)) Lx then ((f_Da_without (g.1 1001 (v3 + (1 : Int32)).toNatClampNeg) (g.1 1001 (v3 + (2 : Int32)).toNatClampNeg) g).bind fun q237 => (if inb (v3 + (1 : Int32)) Lx then (if inb (v3 + (2 : Int32)) Lx then ((f_Mo_without (q237.2.1 1001 (v3 + (1 : Int32)).toNatClampNeg) (q237.2.1 1001 (v3 + (2 : Int32)).toNatClampNeg) q237.2).bind fun q240 => (if q237.1 = q240.1 then some (.inl ((v3 + (6 : Int32)), q240.2)) else some (.inr (.inr ((0 : Int32), q240.2))))) else none) else none)) else none) else none)
set_option maxRecDepth 100000 in
theorem tj_La_law_607 {Lx : Nat}  (v3 : Int32)  (g : M2) {b : (Int32 × M2) ⊕ (M2 ⊕ (Int32 × M2))} {o : Option Value × M2} (h : j_La_law_607 Lx v3 g = some b) (hb : Sum.elim (fun s => Ev Lx 303 cd_303 10 [some (.ref 1001), some (.ref 0), some (.ref 157), some (.int s.1)] [] s.2 o) (Sum.elim (fun e => Ev Lx 303 cd_303 1260 [] [] e o) (fun r => o = (some (.int r.1), r.2))) b) : Ev Lx 303 cd_303 607 [some (.ref 1001), some (.ref 0), some (.ref 157), some (.int v3)] [] g o := by
  unfold j_La_law_607 at h
  refine ev_rn (n := 5) (i2 := 612) (L2 := [some (.ref 1001), some (.ref 0), some (.ref 157), some (.int v3)]) (st2 := [.int (v3 + (1 : Int32)), .ref 1001, .ref 0]) (g2 := g) cdE_303 rfl ?_
  by_cases hi235 : inb (v3 + (1 : Int32)) Lx
  · rw [if_pos hi235] at h
    refine ev_iaload (v := .int (g.1 1001 (v3 + (1 : Int32)).toNatClampNeg)) rfl rfl (by decide) hi235 rfl ?_
    refine ev_rn (n := 4) (i2 := 617) (L2 := [some (.ref 1001), some (.ref 0), some (.ref 157), some (.int v3)]) (st2 := [.int (v3 + (2 : Int32)), .ref 1001, .int (g.1 1001 (v3 + (1 : Int32)).toNatClampNeg), .ref 0]) (g2 := g) cdE_303 rfl ?_
    by_cases hi236 : inb (v3 + (2 : Int32)) Lx
    · rw [if_pos hi236] at h
      refine ev_iaload (v := .int (g.1 1001 (v3 + (2 : Int32)).toNatClampNeg)) rfl rfl (by decide) hi236 rfl ?_
      obtain ⟨q237, hq237, h⟩ := Option.bind_eq_some_iff.mp h
      refine ev_call rfl cdE_194 rfl rfl rfl (e_Da_without (g.1 1001 (v3 + (1 : Int32)).toNatClampNeg) (g.1 1001 (v3 + (2 : Int32)).toNatClampNeg)  g hq237) ?_
      refine ev_rn (n := 5) (i2 := 624) (L2 := [some (.ref 1001), some (.ref 0), some (.ref 157), some (.int v3)]) (st2 := [.int (v3 + (1 : Int32)), .ref 1001, .ref 157, .int q237.1]) (g2 := q237.2) cdE_303 rfl ?_
      by_cases hi238 : inb (v3 + (1 : Int32)) Lx
      · rw [if_pos hi238] at h
        refine ev_iaload (v := .int (q237.2.1 1001 (v3 + (1 : Int32)).toNatClampNeg)) rfl rfl (by decide) hi238 rfl ?_
        refine ev_rn (n := 4) (i2 := 629) (L2 := [some (.ref 1001), some (.ref 0), some (.ref 157), some (.int v3)]) (st2 := [.int (v3 + (2 : Int32)), .ref 1001, .int (q237.2.1 1001 (v3 + (1 : Int32)).toNatClampNeg), .ref 157, .int q237.1]) (g2 := q237.2) cdE_303 rfl ?_
        by_cases hi239 : inb (v3 + (2 : Int32)) Lx
        · rw [if_pos hi239] at h
          refine ev_iaload (v := .int (q237.2.1 1001 (v3 + (2 : Int32)).toNatClampNeg)) rfl rfl (by decide) hi239 rfl ?_
          obtain ⟨q240, hq240, h⟩ := Option.bind_eq_some_iff.mp h
          refine ev_call rfl cdE_195 rfl rfl rfl (e_Mo_without (q237.2.1 1001 (v3 + (1 : Int32)).toNatClampNeg) (q237.2.1 1001 (v3 + (2 : Int32)).toNatClampNeg)  q237.2 hq240) ?_
          by_cases hc241 : q237.1 = q240.1
          · rw [if_pos hc241] at h
            refine ev_ift cdE_303 rfl (cn_t hc241) ?_
            refine ev_rn (n := 2) (i2 := 10) (L2 := [some (.ref 1001), some (.ref 0), some (.ref 157), some (.int (v3 + (6 : Int32)))]) (st2 := []) (g2 := q240.2) cdE_303 rfl ?_
            cases h
            exact ev_wk (L := [some (.ref 1001), some (.ref 0), some (.ref 157), some (.int (v3 + (6 : Int32)))]) hb ⟨rfl, ⟨rfl, ⟨rfl, ⟨rfl, trivial⟩⟩⟩⟩
          · rw [if_neg hc241] at h
            refine ev_iff rfl (cn_f hc241) ?_
            refine ev_rn (n := 1) (i2 := 633) (L2 := [some (.ref 1001), some (.ref 0), some (.ref 157), some (.int v3)]) (st2 := [.int (0 : Int32)]) (g2 := q240.2) cdE_303 rfl ?_
            cases h
            cases hb
            exact ev_ret rfl rt_0
        · rw [if_neg hi239] at h
          cases h
      · rw [if_neg hi238] at h
        cases h
    · rw [if_neg hi236] at h
      cases h
  · rw [if_neg hi235] at h
    cases h
def j_La_law_600 (Lx : Nat) (v3 : Int32) (g : M2) : Option ((Int32 × M2) ⊕ (M2 ⊕ (Int32 × M2))) := ((f_Da_sets g).bind fun q242 => ((f_Mo_sets g).bind fun q243 => (if q242 = q243 then some (.inl ((v3 + (6 : Int32)), g)) else some (.inr (.inr ((0 : Int32), g))))))
set_option maxRecDepth 100000 in
theorem tj_La_law_600 {Lx : Nat}  (v3 : Int32)  (g : M2) {b : (Int32 × M2) ⊕ (M2 ⊕ (Int32 × M2))} {o : Option Value × M2} (h : j_La_law_600 Lx v3 g = some b) (hb : Sum.elim (fun s => Ev Lx 303 cd_303 10 [some (.ref 1001), some (.ref 0), some (.ref 157), some (.int s.1)] [] s.2 o) (Sum.elim (fun e => Ev Lx 303 cd_303 1260 [] [] e o) (fun r => o = (some (.int r.1), r.2))) b) : Ev Lx 303 cd_303 600 [some (.ref 1001), some (.ref 0), some (.ref 157), some (.int v3)] [] g o := by
  unfold j_La_law_600 at h
  refine ev_rn (n := 1) (i2 := 601) (L2 := [some (.ref 1001), some (.ref 0), some (.ref 157), some (.int v3)]) (st2 := [.ref 0]) (g2 := g) cdE_303 rfl ?_
  obtain ⟨q242, hq242, h⟩ := Option.bind_eq_some_iff.mp h
  refine ev_call rfl cdE_190 rfl rfl rfl (e_Da_sets   g hq242) ?_
  refine ev_rn (n := 1) (i2 := 603) (L2 := [some (.ref 1001), some (.ref 0), some (.ref 157), some (.int v3)]) (st2 := [.ref 157, .int q242]) (g2 := g) cdE_303 rfl ?_
  obtain ⟨q243, hq243, h⟩ := Option.bind_eq_some_iff.mp h
  refine ev_call rfl cdE_192 rfl rfl rfl (e_Mo_sets   g hq243) ?_
  by_cases hc244 : q242 = q243
  · rw [if_pos hc244] at h
    refine ev_ift cdE_303 rfl (cn_t hc244) ?_
    refine ev_rn (n := 2) (i2 := 10) (L2 := [some (.ref 1001), some (.ref 0), some (.ref 157), some (.int (v3 + (6 : Int32)))]) (st2 := []) (g2 := g) cdE_303 rfl ?_
    cases h
    exact ev_wk (L := [some (.ref 1001), some (.ref 0), some (.ref 157), some (.int (v3 + (6 : Int32)))]) hb ⟨rfl, ⟨rfl, ⟨rfl, ⟨rfl, trivial⟩⟩⟩⟩
  · rw [if_neg hc244] at h
    refine ev_iff rfl (cn_f hc244) ?_
    refine ev_rn (n := 1) (i2 := 606) (L2 := [some (.ref 1001), some (.ref 0), some (.ref 157), some (.int v3)]) (st2 := [.int (0 : Int32)]) (g2 := g) cdE_303 rfl ?_
    cases h
    cases hb
    exact ev_ret rfl rt_0
def j_La_law_583 (Lx : Nat) (v3 : Int32) (g : M2) : Option ((Int32 × M2) ⊕ (M2 ⊕ (Int32 × M2))) := (if inb (v3 + (1 : Int32)) Lx then ((f_Da_twins (g.1 1001 (v3 + (1 : Int32)).toNatClampNeg) g).bind fun q246 => (if inb (v3 + (1 : Int32)) Lx then ((f_Mo_twins (g.1 1001 (v3 + (1 : Int32)).toNatClampNeg) g).bind fun q248 => (if q246 = q248 then some (.inl ((v3 + (6 : Int32)), g)) else some (.inr (.inr ((0 : Int32), g))))) else none)) else none)
set_option maxRecDepth 100000 in
theorem tj_La_law_583 {Lx : Nat}  (v3 : Int32)  (g : M2) {b : (Int32 × M2) ⊕ (M2 ⊕ (Int32 × M2))} {o : Option Value × M2} (h : j_La_law_583 Lx v3 g = some b) (hb : Sum.elim (fun s => Ev Lx 303 cd_303 10 [some (.ref 1001), some (.ref 0), some (.ref 157), some (.int s.1)] [] s.2 o) (Sum.elim (fun e => Ev Lx 303 cd_303 1260 [] [] e o) (fun r => o = (some (.int r.1), r.2))) b) : Ev Lx 303 cd_303 583 [some (.ref 1001), some (.ref 0), some (.ref 157), some (.int v3)] [] g o := by
  unfold j_La_law_583 at h
  refine ev_rn (n := 5) (i2 := 588) (L2 := [some (.ref 1001), some (.ref 0), some (.ref 157), some (.int v3)]) (st2 := [.int (v3 + (1 : Int32)), .ref 1001, .ref 0]) (g2 := g) cdE_303 rfl ?_
  by_cases hi245 : inb (v3 + (1 : Int32)) Lx
  · rw [if_pos hi245] at h
    refine ev_iaload (v := .int (g.1 1001 (v3 + (1 : Int32)).toNatClampNeg)) rfl rfl (by decide) hi245 rfl ?_
    obtain ⟨q246, hq246, h⟩ := Option.bind_eq_some_iff.mp h
    refine ev_call rfl cdE_188 rfl rfl rfl (e_Da_twins (g.1 1001 (v3 + (1 : Int32)).toNatClampNeg)  g hq246) ?_
    refine ev_rn (n := 5) (i2 := 595) (L2 := [some (.ref 1001), some (.ref 0), some (.ref 157), some (.int v3)]) (st2 := [.int (v3 + (1 : Int32)), .ref 1001, .ref 157, .int q246]) (g2 := g) cdE_303 rfl ?_
    by_cases hi247 : inb (v3 + (1 : Int32)) Lx
    · rw [if_pos hi247] at h
      refine ev_iaload (v := .int (g.1 1001 (v3 + (1 : Int32)).toNatClampNeg)) rfl rfl (by decide) hi247 rfl ?_
      obtain ⟨q248, hq248, h⟩ := Option.bind_eq_some_iff.mp h
      refine ev_call rfl cdE_189 rfl rfl rfl (e_Mo_twins (g.1 1001 (v3 + (1 : Int32)).toNatClampNeg)  g hq248) ?_
      by_cases hc249 : q246 = q248
      · rw [if_pos hc249] at h
        refine ev_ift cdE_303 rfl (cn_t hc249) ?_
        refine ev_rn (n := 2) (i2 := 10) (L2 := [some (.ref 1001), some (.ref 0), some (.ref 157), some (.int (v3 + (6 : Int32)))]) (st2 := []) (g2 := g) cdE_303 rfl ?_
        cases h
        exact ev_wk (L := [some (.ref 1001), some (.ref 0), some (.ref 157), some (.int (v3 + (6 : Int32)))]) hb ⟨rfl, ⟨rfl, ⟨rfl, ⟨rfl, trivial⟩⟩⟩⟩
      · rw [if_neg hc249] at h
        refine ev_iff rfl (cn_f hc249) ?_
        refine ev_rn (n := 1) (i2 := 599) (L2 := [some (.ref 1001), some (.ref 0), some (.ref 157), some (.int v3)]) (st2 := [.int (0 : Int32)]) (g2 := g) cdE_303 rfl ?_
        cases h
        cases hb
        exact ev_ret rfl rt_0
    · rw [if_neg hi247] at h
      cases h
  · rw [if_neg hi245] at h
    cases h
def j_La_law_556 (Lx : Nat) (v3 : Int32) (g : M2) : Option ((Int32 × M2) ⊕ (M2 ⊕ (Int32 × M2))) := (if inb (v3 + (1 : Int32)) Lx then (if inb (v3 + (2 : Int32)) Lx then ((f_Da_bounded (g.1 1001 (v3 + (1 : Int32)).toNatClampNeg) (g.1 1001 (v3 + (2 : Int32)).toNatClampNeg) g).bind fun q252 => (if inb (v3 + (1 : Int32)) Lx then (if inb (v3 + (2 : Int32)) Lx then ((f_Mo_bounded (q252.2.1 1001 (v3 + (1 : Int32)).toNatClampNeg) (q252.2.1 1001 (v3 + (2 : Int32)).toNatClampNeg) q252.2).bind fun q255 => (if q252.1 = q255.1 then some (.inl ((v3 + (6 : Int32)), q255.2)) else some (.inr (.inr ((0 : Int32), q255.2))))) else none) else none)) else none) else none)
set_option maxRecDepth 100000 in
theorem tj_La_law_556 {Lx : Nat}  (v3 : Int32)  (g : M2) {b : (Int32 × M2) ⊕ (M2 ⊕ (Int32 × M2))} {o : Option Value × M2} (h : j_La_law_556 Lx v3 g = some b) (hb : Sum.elim (fun s => Ev Lx 303 cd_303 10 [some (.ref 1001), some (.ref 0), some (.ref 157), some (.int s.1)] [] s.2 o) (Sum.elim (fun e => Ev Lx 303 cd_303 1260 [] [] e o) (fun r => o = (some (.int r.1), r.2))) b) : Ev Lx 303 cd_303 556 [some (.ref 1001), some (.ref 0), some (.ref 157), some (.int v3)] [] g o := by
  unfold j_La_law_556 at h
  refine ev_rn (n := 5) (i2 := 561) (L2 := [some (.ref 1001), some (.ref 0), some (.ref 157), some (.int v3)]) (st2 := [.int (v3 + (1 : Int32)), .ref 1001, .ref 0]) (g2 := g) cdE_303 rfl ?_
  by_cases hi250 : inb (v3 + (1 : Int32)) Lx
  · rw [if_pos hi250] at h
    refine ev_iaload (v := .int (g.1 1001 (v3 + (1 : Int32)).toNatClampNeg)) rfl rfl (by decide) hi250 rfl ?_
    refine ev_rn (n := 4) (i2 := 566) (L2 := [some (.ref 1001), some (.ref 0), some (.ref 157), some (.int v3)]) (st2 := [.int (v3 + (2 : Int32)), .ref 1001, .int (g.1 1001 (v3 + (1 : Int32)).toNatClampNeg), .ref 0]) (g2 := g) cdE_303 rfl ?_
    by_cases hi251 : inb (v3 + (2 : Int32)) Lx
    · rw [if_pos hi251] at h
      refine ev_iaload (v := .int (g.1 1001 (v3 + (2 : Int32)).toNatClampNeg)) rfl rfl (by decide) hi251 rfl ?_
      obtain ⟨q252, hq252, h⟩ := Option.bind_eq_some_iff.mp h
      refine ev_call rfl cdE_186 rfl rfl rfl (e_Da_bounded (g.1 1001 (v3 + (1 : Int32)).toNatClampNeg) (g.1 1001 (v3 + (2 : Int32)).toNatClampNeg)  g hq252) ?_
      refine ev_rn (n := 5) (i2 := 573) (L2 := [some (.ref 1001), some (.ref 0), some (.ref 157), some (.int v3)]) (st2 := [.int (v3 + (1 : Int32)), .ref 1001, .ref 157, .int q252.1]) (g2 := q252.2) cdE_303 rfl ?_
      by_cases hi253 : inb (v3 + (1 : Int32)) Lx
      · rw [if_pos hi253] at h
        refine ev_iaload (v := .int (q252.2.1 1001 (v3 + (1 : Int32)).toNatClampNeg)) rfl rfl (by decide) hi253 rfl ?_
        refine ev_rn (n := 4) (i2 := 578) (L2 := [some (.ref 1001), some (.ref 0), some (.ref 157), some (.int v3)]) (st2 := [.int (v3 + (2 : Int32)), .ref 1001, .int (q252.2.1 1001 (v3 + (1 : Int32)).toNatClampNeg), .ref 157, .int q252.1]) (g2 := q252.2) cdE_303 rfl ?_
        by_cases hi254 : inb (v3 + (2 : Int32)) Lx
        · rw [if_pos hi254] at h
          refine ev_iaload (v := .int (q252.2.1 1001 (v3 + (2 : Int32)).toNatClampNeg)) rfl rfl (by decide) hi254 rfl ?_
          obtain ⟨q255, hq255, h⟩ := Option.bind_eq_some_iff.mp h
          refine ev_call rfl cdE_187 rfl rfl rfl (e_Mo_bounded (q252.2.1 1001 (v3 + (1 : Int32)).toNatClampNeg) (q252.2.1 1001 (v3 + (2 : Int32)).toNatClampNeg)  q252.2 hq255) ?_
          by_cases hc256 : q252.1 = q255.1
          · rw [if_pos hc256] at h
            refine ev_ift cdE_303 rfl (cn_t hc256) ?_
            refine ev_rn (n := 2) (i2 := 10) (L2 := [some (.ref 1001), some (.ref 0), some (.ref 157), some (.int (v3 + (6 : Int32)))]) (st2 := []) (g2 := q255.2) cdE_303 rfl ?_
            cases h
            exact ev_wk (L := [some (.ref 1001), some (.ref 0), some (.ref 157), some (.int (v3 + (6 : Int32)))]) hb ⟨rfl, ⟨rfl, ⟨rfl, ⟨rfl, trivial⟩⟩⟩⟩
          · rw [if_neg hc256] at h
            refine ev_iff rfl (cn_f hc256) ?_
            refine ev_rn (n := 1) (i2 := 582) (L2 := [some (.ref 1001), some (.ref 0), some (.ref 157), some (.int v3)]) (st2 := [.int (0 : Int32)]) (g2 := q255.2) cdE_303 rfl ?_
            cases h
            cases hb
            exact ev_ret rfl rt_0
        · rw [if_neg hi254] at h
          cases h
      · rw [if_neg hi253] at h
        cases h
    · rw [if_neg hi251] at h
      cases h
  · rw [if_neg hi250] at h
    cases h
def j_La_law_549 (Lx : Nat) (v3 : Int32) (g : M2) : Option ((Int32 × M2) ⊕ (M2 ⊕ (Int32 × M2))) := ((f_Da_side g).bind fun q257 => ((f_Mo_side q257.2).bind fun q258 => (if q257.1 = q258.1 then some (.inl ((v3 + (6 : Int32)), q258.2)) else some (.inr (.inr ((0 : Int32), q258.2))))))
set_option maxRecDepth 100000 in
theorem tj_La_law_549 {Lx : Nat}  (v3 : Int32)  (g : M2) {b : (Int32 × M2) ⊕ (M2 ⊕ (Int32 × M2))} {o : Option Value × M2} (h : j_La_law_549 Lx v3 g = some b) (hb : Sum.elim (fun s => Ev Lx 303 cd_303 10 [some (.ref 1001), some (.ref 0), some (.ref 157), some (.int s.1)] [] s.2 o) (Sum.elim (fun e => Ev Lx 303 cd_303 1260 [] [] e o) (fun r => o = (some (.int r.1), r.2))) b) : Ev Lx 303 cd_303 549 [some (.ref 1001), some (.ref 0), some (.ref 157), some (.int v3)] [] g o := by
  unfold j_La_law_549 at h
  refine ev_rn (n := 1) (i2 := 550) (L2 := [some (.ref 1001), some (.ref 0), some (.ref 157), some (.int v3)]) (st2 := [.ref 0]) (g2 := g) cdE_303 rfl ?_
  obtain ⟨q257, hq257, h⟩ := Option.bind_eq_some_iff.mp h
  refine ev_call rfl cdE_181 rfl rfl rfl (e_Da_side   g hq257) ?_
  refine ev_rn (n := 1) (i2 := 552) (L2 := [some (.ref 1001), some (.ref 0), some (.ref 157), some (.int v3)]) (st2 := [.ref 157, .int q257.1]) (g2 := q257.2) cdE_303 rfl ?_
  obtain ⟨q258, hq258, h⟩ := Option.bind_eq_some_iff.mp h
  refine ev_call rfl cdE_184 rfl rfl rfl (e_Mo_side   q257.2 hq258) ?_
  by_cases hc259 : q257.1 = q258.1
  · rw [if_pos hc259] at h
    refine ev_ift cdE_303 rfl (cn_t hc259) ?_
    refine ev_rn (n := 2) (i2 := 10) (L2 := [some (.ref 1001), some (.ref 0), some (.ref 157), some (.int (v3 + (6 : Int32)))]) (st2 := []) (g2 := q258.2) cdE_303 rfl ?_
    cases h
    exact ev_wk (L := [some (.ref 1001), some (.ref 0), some (.ref 157), some (.int (v3 + (6 : Int32)))]) hb ⟨rfl, ⟨rfl, ⟨rfl, ⟨rfl, trivial⟩⟩⟩⟩
  · rw [if_neg hc259] at h
    refine ev_iff rfl (cn_f hc259) ?_
    refine ev_rn (n := 1) (i2 := 555) (L2 := [some (.ref 1001), some (.ref 0), some (.ref 157), some (.int v3)]) (st2 := [.int (0 : Int32)]) (g2 := q258.2) cdE_303 rfl ?_
    cases h
    cases hb
    exact ev_ret rfl rt_0
def j_La_law_542 (Lx : Nat) (v3 : Int32) (g : M2) : Option ((Int32 × M2) ⊕ (M2 ⊕ (Int32 × M2))) := ((f_Da_quiet g).bind fun q260 => ((f_Mo_quiet q260.2).bind fun q261 => (if q260.1 = q261.1 then some (.inl ((v3 + (6 : Int32)), q261.2)) else some (.inr (.inr ((0 : Int32), q261.2))))))
set_option maxRecDepth 100000 in
theorem tj_La_law_542 {Lx : Nat}  (v3 : Int32)  (g : M2) {b : (Int32 × M2) ⊕ (M2 ⊕ (Int32 × M2))} {o : Option Value × M2} (h : j_La_law_542 Lx v3 g = some b) (hb : Sum.elim (fun s => Ev Lx 303 cd_303 10 [some (.ref 1001), some (.ref 0), some (.ref 157), some (.int s.1)] [] s.2 o) (Sum.elim (fun e => Ev Lx 303 cd_303 1260 [] [] e o) (fun r => o = (some (.int r.1), r.2))) b) : Ev Lx 303 cd_303 542 [some (.ref 1001), some (.ref 0), some (.ref 157), some (.int v3)] [] g o := by
  unfold j_La_law_542 at h
  refine ev_rn (n := 1) (i2 := 543) (L2 := [some (.ref 1001), some (.ref 0), some (.ref 157), some (.int v3)]) (st2 := [.ref 0]) (g2 := g) cdE_303 rfl ?_
  obtain ⟨q260, hq260, h⟩ := Option.bind_eq_some_iff.mp h
  refine ev_call rfl cdE_178 rfl rfl rfl (e_Da_quiet   g hq260) ?_
  refine ev_rn (n := 1) (i2 := 545) (L2 := [some (.ref 1001), some (.ref 0), some (.ref 157), some (.int v3)]) (st2 := [.ref 157, .int q260.1]) (g2 := q260.2) cdE_303 rfl ?_
  obtain ⟨q261, hq261, h⟩ := Option.bind_eq_some_iff.mp h
  refine ev_call rfl cdE_179 rfl rfl rfl (e_Mo_quiet   q260.2 hq261) ?_
  by_cases hc262 : q260.1 = q261.1
  · rw [if_pos hc262] at h
    refine ev_ift cdE_303 rfl (cn_t hc262) ?_
    refine ev_rn (n := 2) (i2 := 10) (L2 := [some (.ref 1001), some (.ref 0), some (.ref 157), some (.int (v3 + (6 : Int32)))]) (st2 := []) (g2 := q261.2) cdE_303 rfl ?_
    cases h
    exact ev_wk (L := [some (.ref 1001), some (.ref 0), some (.ref 157), some (.int (v3 + (6 : Int32)))]) hb ⟨rfl, ⟨rfl, ⟨rfl, ⟨rfl, trivial⟩⟩⟩⟩
  · rw [if_neg hc262] at h
    refine ev_iff rfl (cn_f hc262) ?_
    refine ev_rn (n := 1) (i2 := 548) (L2 := [some (.ref 1001), some (.ref 0), some (.ref 157), some (.int v3)]) (st2 := [.int (0 : Int32)]) (g2 := q261.2) cdE_303 rfl ?_
    cases h
    cases hb
    exact ev_ret rfl rt_0
def j_La_law_525 (Lx : Nat) (v3 : Int32) (g : M2) : Option ((Int32 × M2) ⊕ (M2 ⊕ (Int32 × M2))) := (if inb (v3 + (1 : Int32)) Lx then ((f_Da_nearest (g.1 1001 (v3 + (1 : Int32)).toNatClampNeg) g).bind fun q264 => (if inb (v3 + (1 : Int32)) Lx then ((f_Mo_nearest (q264.2.1 1001 (v3 + (1 : Int32)).toNatClampNeg) q264.2).bind fun q266 => (if q264.1 = q266.1 then some (.inl ((v3 + (6 : Int32)), q266.2)) else some (.inr (.inr ((0 : Int32), q266.2))))) else none)) else none)
set_option maxRecDepth 100000 in
theorem tj_La_law_525 {Lx : Nat}  (v3 : Int32)  (g : M2) {b : (Int32 × M2) ⊕ (M2 ⊕ (Int32 × M2))} {o : Option Value × M2} (h : j_La_law_525 Lx v3 g = some b) (hb : Sum.elim (fun s => Ev Lx 303 cd_303 10 [some (.ref 1001), some (.ref 0), some (.ref 157), some (.int s.1)] [] s.2 o) (Sum.elim (fun e => Ev Lx 303 cd_303 1260 [] [] e o) (fun r => o = (some (.int r.1), r.2))) b) : Ev Lx 303 cd_303 525 [some (.ref 1001), some (.ref 0), some (.ref 157), some (.int v3)] [] g o := by
  unfold j_La_law_525 at h
  refine ev_rn (n := 5) (i2 := 530) (L2 := [some (.ref 1001), some (.ref 0), some (.ref 157), some (.int v3)]) (st2 := [.int (v3 + (1 : Int32)), .ref 1001, .ref 0]) (g2 := g) cdE_303 rfl ?_
  by_cases hi263 : inb (v3 + (1 : Int32)) Lx
  · rw [if_pos hi263] at h
    refine ev_iaload (v := .int (g.1 1001 (v3 + (1 : Int32)).toNatClampNeg)) rfl rfl (by decide) hi263 rfl ?_
    obtain ⟨q264, hq264, h⟩ := Option.bind_eq_some_iff.mp h
    refine ev_call rfl cdE_175 rfl rfl rfl (e_Da_nearest (g.1 1001 (v3 + (1 : Int32)).toNatClampNeg)  g hq264) ?_
    refine ev_rn (n := 5) (i2 := 537) (L2 := [some (.ref 1001), some (.ref 0), some (.ref 157), some (.int v3)]) (st2 := [.int (v3 + (1 : Int32)), .ref 1001, .ref 157, .int q264.1]) (g2 := q264.2) cdE_303 rfl ?_
    by_cases hi265 : inb (v3 + (1 : Int32)) Lx
    · rw [if_pos hi265] at h
      refine ev_iaload (v := .int (q264.2.1 1001 (v3 + (1 : Int32)).toNatClampNeg)) rfl rfl (by decide) hi265 rfl ?_
      obtain ⟨q266, hq266, h⟩ := Option.bind_eq_some_iff.mp h
      refine ev_call rfl cdE_177 rfl rfl rfl (e_Mo_nearest (q264.2.1 1001 (v3 + (1 : Int32)).toNatClampNeg)  q264.2 hq266) ?_
      by_cases hc267 : q264.1 = q266.1
      · rw [if_pos hc267] at h
        refine ev_ift cdE_303 rfl (cn_t hc267) ?_
        refine ev_rn (n := 2) (i2 := 10) (L2 := [some (.ref 1001), some (.ref 0), some (.ref 157), some (.int (v3 + (6 : Int32)))]) (st2 := []) (g2 := q266.2) cdE_303 rfl ?_
        cases h
        exact ev_wk (L := [some (.ref 1001), some (.ref 0), some (.ref 157), some (.int (v3 + (6 : Int32)))]) hb ⟨rfl, ⟨rfl, ⟨rfl, ⟨rfl, trivial⟩⟩⟩⟩
      · rw [if_neg hc267] at h
        refine ev_iff rfl (cn_f hc267) ?_
        refine ev_rn (n := 1) (i2 := 541) (L2 := [some (.ref 1001), some (.ref 0), some (.ref 157), some (.int v3)]) (st2 := [.int (0 : Int32)]) (g2 := q266.2) cdE_303 rfl ?_
        cases h
        cases hb
        exact ev_ret rfl rt_0
    · rw [if_neg hi265] at h
      cases h
  · rw [if_neg hi263] at h
    cases h
def j_La_law_488 (Lx : Nat) (v3 : Int32) (g : M2) : Option ((Int32 × M2) ⊕ (M2 ⊕ (Int32 × M2))) := (if inb (v3 + (1 : Int32)) Lx then (if inb (v3 + (2 : Int32)) Lx then (if inb (v3 + (3 : Int32)) Lx then ((f_Da_likeness (g.1 1001 (v3 + (1 : Int32)).toNatClampNeg) (g.1 1001 (v3 + (2 : Int32)).toNatClampNeg) (g.1 1001 (v3 + (3 : Int32)).toNatClampNeg) g).bind fun q271 => (if inb (v3 + (1 : Int32)) Lx then (if inb (v3 + (2 : Int32)) Lx then (if inb (v3 + (3 : Int32)) Lx then ((f_Mo_likeness (q271.2.1 1001 (v3 + (1 : Int32)).toNatClampNeg) (q271.2.1 1001 (v3 + (2 : Int32)).toNatClampNeg) (q271.2.1 1001 (v3 + (3 : Int32)).toNatClampNeg) q271.2).bind fun q275 => (if q271.1 = q275.1 then some (.inl ((v3 + (6 : Int32)), q275.2)) else some (.inr (.inr ((0 : Int32), q275.2))))) else none) else none) else none)) else none) else none) else none)
set_option maxRecDepth 100000 in
theorem tj_La_law_488 {Lx : Nat}  (v3 : Int32)  (g : M2) {b : (Int32 × M2) ⊕ (M2 ⊕ (Int32 × M2))} {o : Option Value × M2} (h : j_La_law_488 Lx v3 g = some b) (hb : Sum.elim (fun s => Ev Lx 303 cd_303 10 [some (.ref 1001), some (.ref 0), some (.ref 157), some (.int s.1)] [] s.2 o) (Sum.elim (fun e => Ev Lx 303 cd_303 1260 [] [] e o) (fun r => o = (some (.int r.1), r.2))) b) : Ev Lx 303 cd_303 488 [some (.ref 1001), some (.ref 0), some (.ref 157), some (.int v3)] [] g o := by
  unfold j_La_law_488 at h
  refine ev_rn (n := 5) (i2 := 493) (L2 := [some (.ref 1001), some (.ref 0), some (.ref 157), some (.int v3)]) (st2 := [.int (v3 + (1 : Int32)), .ref 1001, .ref 0]) (g2 := g) cdE_303 rfl ?_
  by_cases hi268 : inb (v3 + (1 : Int32)) Lx
  · rw [if_pos hi268] at h
    refine ev_iaload (v := .int (g.1 1001 (v3 + (1 : Int32)).toNatClampNeg)) rfl rfl (by decide) hi268 rfl ?_
    refine ev_rn (n := 4) (i2 := 498) (L2 := [some (.ref 1001), some (.ref 0), some (.ref 157), some (.int v3)]) (st2 := [.int (v3 + (2 : Int32)), .ref 1001, .int (g.1 1001 (v3 + (1 : Int32)).toNatClampNeg), .ref 0]) (g2 := g) cdE_303 rfl ?_
    by_cases hi269 : inb (v3 + (2 : Int32)) Lx
    · rw [if_pos hi269] at h
      refine ev_iaload (v := .int (g.1 1001 (v3 + (2 : Int32)).toNatClampNeg)) rfl rfl (by decide) hi269 rfl ?_
      refine ev_rn (n := 4) (i2 := 503) (L2 := [some (.ref 1001), some (.ref 0), some (.ref 157), some (.int v3)]) (st2 := [.int (v3 + (3 : Int32)), .ref 1001, .int (g.1 1001 (v3 + (2 : Int32)).toNatClampNeg), .int (g.1 1001 (v3 + (1 : Int32)).toNatClampNeg), .ref 0]) (g2 := g) cdE_303 rfl ?_
      by_cases hi270 : inb (v3 + (3 : Int32)) Lx
      · rw [if_pos hi270] at h
        refine ev_iaload (v := .int (g.1 1001 (v3 + (3 : Int32)).toNatClampNeg)) rfl rfl (by decide) hi270 rfl ?_
        obtain ⟨q271, hq271, h⟩ := Option.bind_eq_some_iff.mp h
        refine ev_call rfl cdE_168 rfl rfl rfl (e_Da_likeness (g.1 1001 (v3 + (1 : Int32)).toNatClampNeg) (g.1 1001 (v3 + (2 : Int32)).toNatClampNeg) (g.1 1001 (v3 + (3 : Int32)).toNatClampNeg)  g hq271) ?_
        refine ev_rn (n := 5) (i2 := 510) (L2 := [some (.ref 1001), some (.ref 0), some (.ref 157), some (.int v3)]) (st2 := [.int (v3 + (1 : Int32)), .ref 1001, .ref 157, .int q271.1]) (g2 := q271.2) cdE_303 rfl ?_
        by_cases hi272 : inb (v3 + (1 : Int32)) Lx
        · rw [if_pos hi272] at h
          refine ev_iaload (v := .int (q271.2.1 1001 (v3 + (1 : Int32)).toNatClampNeg)) rfl rfl (by decide) hi272 rfl ?_
          refine ev_rn (n := 4) (i2 := 515) (L2 := [some (.ref 1001), some (.ref 0), some (.ref 157), some (.int v3)]) (st2 := [.int (v3 + (2 : Int32)), .ref 1001, .int (q271.2.1 1001 (v3 + (1 : Int32)).toNatClampNeg), .ref 157, .int q271.1]) (g2 := q271.2) cdE_303 rfl ?_
          by_cases hi273 : inb (v3 + (2 : Int32)) Lx
          · rw [if_pos hi273] at h
            refine ev_iaload (v := .int (q271.2.1 1001 (v3 + (2 : Int32)).toNatClampNeg)) rfl rfl (by decide) hi273 rfl ?_
            refine ev_rn (n := 4) (i2 := 520) (L2 := [some (.ref 1001), some (.ref 0), some (.ref 157), some (.int v3)]) (st2 := [.int (v3 + (3 : Int32)), .ref 1001, .int (q271.2.1 1001 (v3 + (2 : Int32)).toNatClampNeg), .int (q271.2.1 1001 (v3 + (1 : Int32)).toNatClampNeg), .ref 157, .int q271.1]) (g2 := q271.2) cdE_303 rfl ?_
            by_cases hi274 : inb (v3 + (3 : Int32)) Lx
            · rw [if_pos hi274] at h
              refine ev_iaload (v := .int (q271.2.1 1001 (v3 + (3 : Int32)).toNatClampNeg)) rfl rfl (by decide) hi274 rfl ?_
              obtain ⟨q275, hq275, h⟩ := Option.bind_eq_some_iff.mp h
              refine ev_call rfl cdE_170 rfl rfl rfl (e_Mo_likeness (q271.2.1 1001 (v3 + (1 : Int32)).toNatClampNeg) (q271.2.1 1001 (v3 + (2 : Int32)).toNatClampNeg) (q271.2.1 1001 (v3 + (3 : Int32)).toNatClampNeg)  q271.2 hq275) ?_
              by_cases hc276 : q271.1 = q275.1
              · rw [if_pos hc276] at h
                refine ev_ift cdE_303 rfl (cn_t hc276) ?_
                refine ev_rn (n := 2) (i2 := 10) (L2 := [some (.ref 1001), some (.ref 0), some (.ref 157), some (.int (v3 + (6 : Int32)))]) (st2 := []) (g2 := q275.2) cdE_303 rfl ?_
                cases h
                exact ev_wk (L := [some (.ref 1001), some (.ref 0), some (.ref 157), some (.int (v3 + (6 : Int32)))]) hb ⟨rfl, ⟨rfl, ⟨rfl, ⟨rfl, trivial⟩⟩⟩⟩
              · rw [if_neg hc276] at h
                refine ev_iff rfl (cn_f hc276) ?_
                refine ev_rn (n := 1) (i2 := 524) (L2 := [some (.ref 1001), some (.ref 0), some (.ref 157), some (.int v3)]) (st2 := [.int (0 : Int32)]) (g2 := q275.2) cdE_303 rfl ?_
                cases h
                cases hb
                exact ev_ret rfl rt_0
            · rw [if_neg hi274] at h
              cases h
          · rw [if_neg hi273] at h
            cases h
        · rw [if_neg hi272] at h
          cases h
      · rw [if_neg hi270] at h
        cases h
    · rw [if_neg hi269] at h
      cases h
  · rw [if_neg hi268] at h
    cases h
def j_La_law_470 (Lx : Nat) (v3 : Int32) (g : M2) : Option ((Int32 × M2) ⊕ (M2 ⊕ (Int32 × M2))) := (if inb (v3 + (1 : Int32)) Lx then ((f_Da_room (g.1 1001 (v3 + (1 : Int32)).toNatClampNeg) g).bind fun q278 => (if inb (v3 + (1 : Int32)) Lx then ((f_Mo_room (q278.2.1 1001 (v3 + (1 : Int32)).toNatClampNeg) q278.2).bind fun q280 => (if q278.1 = q280.1 then some (.inl ((v3 + (6 : Int32)), q280.2)) else some (.inr (.inr ((0 : Int32), q280.2))))) else none)) else none)
set_option maxRecDepth 100000 in
theorem tj_La_law_470 {Lx : Nat}  (v3 : Int32)  (g : M2) {b : (Int32 × M2) ⊕ (M2 ⊕ (Int32 × M2))} {o : Option Value × M2} (h : j_La_law_470 Lx v3 g = some b) (hb : Sum.elim (fun s => Ev Lx 303 cd_303 10 [some (.ref 1001), some (.ref 0), some (.ref 157), some (.int s.1)] [] s.2 o) (Sum.elim (fun e => Ev Lx 303 cd_303 1260 [] [] e o) (fun r => o = (some (.int r.1), r.2))) b) : Ev Lx 303 cd_303 470 [some (.ref 1001), some (.ref 0), some (.ref 157), some (.int v3)] [] g o := by
  unfold j_La_law_470 at h
  refine ev_rn (n := 5) (i2 := 475) (L2 := [some (.ref 1001), some (.ref 0), some (.ref 157), some (.int v3)]) (st2 := [.int (v3 + (1 : Int32)), .ref 1001, .ref 0]) (g2 := g) cdE_303 rfl ?_
  by_cases hi277 : inb (v3 + (1 : Int32)) Lx
  · rw [if_pos hi277] at h
    refine ev_iaload (v := .int (g.1 1001 (v3 + (1 : Int32)).toNatClampNeg)) rfl rfl (by decide) hi277 rfl ?_
    obtain ⟨q278, hq278, h⟩ := Option.bind_eq_some_iff.mp h
    refine ev_call rfl cdE_166 rfl rfl rfl (e_Da_room (g.1 1001 (v3 + (1 : Int32)).toNatClampNeg)  g hq278) ?_
    refine ev_rn (n := 5) (i2 := 482) (L2 := [some (.ref 1001), some (.ref 0), some (.ref 157), some (.int v3)]) (st2 := [.int (v3 + (1 : Int32)), .ref 1001, .ref 157, .long q278.1]) (g2 := q278.2) cdE_303 rfl ?_
    by_cases hi279 : inb (v3 + (1 : Int32)) Lx
    · rw [if_pos hi279] at h
      refine ev_iaload (v := .int (q278.2.1 1001 (v3 + (1 : Int32)).toNatClampNeg)) rfl rfl (by decide) hi279 rfl ?_
      obtain ⟨q280, hq280, h⟩ := Option.bind_eq_some_iff.mp h
      refine ev_call rfl cdE_167 rfl rfl rfl (e_Mo_room (q278.2.1 1001 (v3 + (1 : Int32)).toNatClampNeg)  q278.2 hq280) ?_
      refine ev_rn (n := 1) (i2 := 485) (L2 := [some (.ref 1001), some (.ref 0), some (.ref 157), some (.int v3)]) (st2 := [.int (lg_cmp q278.1 q280.1)]) (g2 := q280.2) cdE_303 rfl ?_
      by_cases hc281 : q278.1 = q280.1
      · rw [if_pos hc281] at h
        refine ev_zft cdE_303 rfl (lc_eq_t hc281) ?_
        refine ev_rn (n := 2) (i2 := 10) (L2 := [some (.ref 1001), some (.ref 0), some (.ref 157), some (.int (v3 + (6 : Int32)))]) (st2 := []) (g2 := q280.2) cdE_303 rfl ?_
        cases h
        exact ev_wk (L := [some (.ref 1001), some (.ref 0), some (.ref 157), some (.int (v3 + (6 : Int32)))]) hb ⟨rfl, ⟨rfl, ⟨rfl, ⟨rfl, trivial⟩⟩⟩⟩
      · rw [if_neg hc281] at h
        refine ev_zff rfl (lc_eq_f hc281) ?_
        refine ev_rn (n := 1) (i2 := 487) (L2 := [some (.ref 1001), some (.ref 0), some (.ref 157), some (.int v3)]) (st2 := [.int (0 : Int32)]) (g2 := q280.2) cdE_303 rfl ?_
        cases h
        cases hb
        exact ev_ret rfl rt_0
    · rw [if_neg hi279] at h
      cases h
  · rw [if_neg hi277] at h
    cases h
def j_La_law_442 (Lx : Nat) (v3 : Int32) (g : M2) : Option ((Int32 × M2) ⊕ (M2 ⊕ (Int32 × M2))) := (if inb (v3 + (1 : Int32)) Lx then (if inb (v3 + (2 : Int32)) Lx then ((f_Da_share (g.1 1001 (v3 + (1 : Int32)).toNatClampNeg) (g.1 1001 (v3 + (2 : Int32)).toNatClampNeg) g).bind fun q284 => (if inb (v3 + (1 : Int32)) Lx then (if inb (v3 + (2 : Int32)) Lx then ((f_Mo_share (q284.2.1 1001 (v3 + (1 : Int32)).toNatClampNeg) (q284.2.1 1001 (v3 + (2 : Int32)).toNatClampNeg) q284.2).bind fun q287 => (if q284.1 = q287.1 then some (.inl ((v3 + (6 : Int32)), q287.2)) else some (.inr (.inr ((0 : Int32), q287.2))))) else none) else none)) else none) else none)
set_option maxRecDepth 100000 in
theorem tj_La_law_442 {Lx : Nat}  (v3 : Int32)  (g : M2) {b : (Int32 × M2) ⊕ (M2 ⊕ (Int32 × M2))} {o : Option Value × M2} (h : j_La_law_442 Lx v3 g = some b) (hb : Sum.elim (fun s => Ev Lx 303 cd_303 10 [some (.ref 1001), some (.ref 0), some (.ref 157), some (.int s.1)] [] s.2 o) (Sum.elim (fun e => Ev Lx 303 cd_303 1260 [] [] e o) (fun r => o = (some (.int r.1), r.2))) b) : Ev Lx 303 cd_303 442 [some (.ref 1001), some (.ref 0), some (.ref 157), some (.int v3)] [] g o := by
  unfold j_La_law_442 at h
  refine ev_rn (n := 5) (i2 := 447) (L2 := [some (.ref 1001), some (.ref 0), some (.ref 157), some (.int v3)]) (st2 := [.int (v3 + (1 : Int32)), .ref 1001, .ref 0]) (g2 := g) cdE_303 rfl ?_
  by_cases hi282 : inb (v3 + (1 : Int32)) Lx
  · rw [if_pos hi282] at h
    refine ev_iaload (v := .int (g.1 1001 (v3 + (1 : Int32)).toNatClampNeg)) rfl rfl (by decide) hi282 rfl ?_
    refine ev_rn (n := 4) (i2 := 452) (L2 := [some (.ref 1001), some (.ref 0), some (.ref 157), some (.int v3)]) (st2 := [.int (v3 + (2 : Int32)), .ref 1001, .int (g.1 1001 (v3 + (1 : Int32)).toNatClampNeg), .ref 0]) (g2 := g) cdE_303 rfl ?_
    by_cases hi283 : inb (v3 + (2 : Int32)) Lx
    · rw [if_pos hi283] at h
      refine ev_iaload (v := .int (g.1 1001 (v3 + (2 : Int32)).toNatClampNeg)) rfl rfl (by decide) hi283 rfl ?_
      obtain ⟨q284, hq284, h⟩ := Option.bind_eq_some_iff.mp h
      refine ev_call rfl cdE_164 rfl rfl rfl (e_Da_share (g.1 1001 (v3 + (1 : Int32)).toNatClampNeg) (g.1 1001 (v3 + (2 : Int32)).toNatClampNeg)  g hq284) ?_
      refine ev_rn (n := 5) (i2 := 459) (L2 := [some (.ref 1001), some (.ref 0), some (.ref 157), some (.int v3)]) (st2 := [.int (v3 + (1 : Int32)), .ref 1001, .ref 157, .long q284.1]) (g2 := q284.2) cdE_303 rfl ?_
      by_cases hi285 : inb (v3 + (1 : Int32)) Lx
      · rw [if_pos hi285] at h
        refine ev_iaload (v := .int (q284.2.1 1001 (v3 + (1 : Int32)).toNatClampNeg)) rfl rfl (by decide) hi285 rfl ?_
        refine ev_rn (n := 4) (i2 := 464) (L2 := [some (.ref 1001), some (.ref 0), some (.ref 157), some (.int v3)]) (st2 := [.int (v3 + (2 : Int32)), .ref 1001, .int (q284.2.1 1001 (v3 + (1 : Int32)).toNatClampNeg), .ref 157, .long q284.1]) (g2 := q284.2) cdE_303 rfl ?_
        by_cases hi286 : inb (v3 + (2 : Int32)) Lx
        · rw [if_pos hi286] at h
          refine ev_iaload (v := .int (q284.2.1 1001 (v3 + (2 : Int32)).toNatClampNeg)) rfl rfl (by decide) hi286 rfl ?_
          obtain ⟨q287, hq287, h⟩ := Option.bind_eq_some_iff.mp h
          refine ev_call rfl cdE_165 rfl rfl rfl (e_Mo_share (q284.2.1 1001 (v3 + (1 : Int32)).toNatClampNeg) (q284.2.1 1001 (v3 + (2 : Int32)).toNatClampNeg)  q284.2 hq287) ?_
          refine ev_rn (n := 1) (i2 := 467) (L2 := [some (.ref 1001), some (.ref 0), some (.ref 157), some (.int v3)]) (st2 := [.int (lg_cmp q284.1 q287.1)]) (g2 := q287.2) cdE_303 rfl ?_
          by_cases hc288 : q284.1 = q287.1
          · rw [if_pos hc288] at h
            refine ev_zft cdE_303 rfl (lc_eq_t hc288) ?_
            refine ev_rn (n := 2) (i2 := 10) (L2 := [some (.ref 1001), some (.ref 0), some (.ref 157), some (.int (v3 + (6 : Int32)))]) (st2 := []) (g2 := q287.2) cdE_303 rfl ?_
            cases h
            exact ev_wk (L := [some (.ref 1001), some (.ref 0), some (.ref 157), some (.int (v3 + (6 : Int32)))]) hb ⟨rfl, ⟨rfl, ⟨rfl, ⟨rfl, trivial⟩⟩⟩⟩
          · rw [if_neg hc288] at h
            refine ev_zff rfl (lc_eq_f hc288) ?_
            refine ev_rn (n := 1) (i2 := 469) (L2 := [some (.ref 1001), some (.ref 0), some (.ref 157), some (.int v3)]) (st2 := [.int (0 : Int32)]) (g2 := q287.2) cdE_303 rfl ?_
            cases h
            cases hb
            exact ev_ret rfl rt_0
        · rw [if_neg hi286] at h
          cases h
      · rw [if_neg hi285] at h
        cases h
    · rw [if_neg hi283] at h
      cases h
  · rw [if_neg hi282] at h
    cases h
def j_La_law_415 (Lx : Nat) (v3 : Int32) (g : M2) : Option ((Int32 × M2) ⊕ (M2 ⊕ (Int32 × M2))) := (if inb (v3 + (1 : Int32)) Lx then (if inb (v3 + (2 : Int32)) Lx then ((f_Da_beam (g.1 1001 (v3 + (1 : Int32)).toNatClampNeg) (g.1 1001 (v3 + (2 : Int32)).toNatClampNeg) g).bind fun q291 => (if inb (v3 + (1 : Int32)) Lx then (if inb (v3 + (2 : Int32)) Lx then ((f_Mo_beam (q291.2.1 1001 (v3 + (1 : Int32)).toNatClampNeg) (q291.2.1 1001 (v3 + (2 : Int32)).toNatClampNeg) q291.2).bind fun q294 => (if q291.1 = q294.1 then some (.inl ((v3 + (6 : Int32)), q294.2)) else some (.inr (.inr ((0 : Int32), q294.2))))) else none) else none)) else none) else none)
set_option maxRecDepth 100000 in
theorem tj_La_law_415 {Lx : Nat}  (v3 : Int32)  (g : M2) {b : (Int32 × M2) ⊕ (M2 ⊕ (Int32 × M2))} {o : Option Value × M2} (h : j_La_law_415 Lx v3 g = some b) (hb : Sum.elim (fun s => Ev Lx 303 cd_303 10 [some (.ref 1001), some (.ref 0), some (.ref 157), some (.int s.1)] [] s.2 o) (Sum.elim (fun e => Ev Lx 303 cd_303 1260 [] [] e o) (fun r => o = (some (.int r.1), r.2))) b) : Ev Lx 303 cd_303 415 [some (.ref 1001), some (.ref 0), some (.ref 157), some (.int v3)] [] g o := by
  unfold j_La_law_415 at h
  refine ev_rn (n := 5) (i2 := 420) (L2 := [some (.ref 1001), some (.ref 0), some (.ref 157), some (.int v3)]) (st2 := [.int (v3 + (1 : Int32)), .ref 1001, .ref 0]) (g2 := g) cdE_303 rfl ?_
  by_cases hi289 : inb (v3 + (1 : Int32)) Lx
  · rw [if_pos hi289] at h
    refine ev_iaload (v := .int (g.1 1001 (v3 + (1 : Int32)).toNatClampNeg)) rfl rfl (by decide) hi289 rfl ?_
    refine ev_rn (n := 4) (i2 := 425) (L2 := [some (.ref 1001), some (.ref 0), some (.ref 157), some (.int v3)]) (st2 := [.int (v3 + (2 : Int32)), .ref 1001, .int (g.1 1001 (v3 + (1 : Int32)).toNatClampNeg), .ref 0]) (g2 := g) cdE_303 rfl ?_
    by_cases hi290 : inb (v3 + (2 : Int32)) Lx
    · rw [if_pos hi290] at h
      refine ev_iaload (v := .int (g.1 1001 (v3 + (2 : Int32)).toNatClampNeg)) rfl rfl (by decide) hi290 rfl ?_
      obtain ⟨q291, hq291, h⟩ := Option.bind_eq_some_iff.mp h
      refine ev_call rfl cdE_162 rfl rfl rfl (e_Da_beam (g.1 1001 (v3 + (1 : Int32)).toNatClampNeg) (g.1 1001 (v3 + (2 : Int32)).toNatClampNeg)  g hq291) ?_
      refine ev_rn (n := 5) (i2 := 432) (L2 := [some (.ref 1001), some (.ref 0), some (.ref 157), some (.int v3)]) (st2 := [.int (v3 + (1 : Int32)), .ref 1001, .ref 157, .int q291.1]) (g2 := q291.2) cdE_303 rfl ?_
      by_cases hi292 : inb (v3 + (1 : Int32)) Lx
      · rw [if_pos hi292] at h
        refine ev_iaload (v := .int (q291.2.1 1001 (v3 + (1 : Int32)).toNatClampNeg)) rfl rfl (by decide) hi292 rfl ?_
        refine ev_rn (n := 4) (i2 := 437) (L2 := [some (.ref 1001), some (.ref 0), some (.ref 157), some (.int v3)]) (st2 := [.int (v3 + (2 : Int32)), .ref 1001, .int (q291.2.1 1001 (v3 + (1 : Int32)).toNatClampNeg), .ref 157, .int q291.1]) (g2 := q291.2) cdE_303 rfl ?_
        by_cases hi293 : inb (v3 + (2 : Int32)) Lx
        · rw [if_pos hi293] at h
          refine ev_iaload (v := .int (q291.2.1 1001 (v3 + (2 : Int32)).toNatClampNeg)) rfl rfl (by decide) hi293 rfl ?_
          obtain ⟨q294, hq294, h⟩ := Option.bind_eq_some_iff.mp h
          refine ev_call rfl cdE_163 rfl rfl rfl (e_Mo_beam (q291.2.1 1001 (v3 + (1 : Int32)).toNatClampNeg) (q291.2.1 1001 (v3 + (2 : Int32)).toNatClampNeg)  q291.2 hq294) ?_
          by_cases hc295 : q291.1 = q294.1
          · rw [if_pos hc295] at h
            refine ev_ift cdE_303 rfl (cn_t hc295) ?_
            refine ev_rn (n := 2) (i2 := 10) (L2 := [some (.ref 1001), some (.ref 0), some (.ref 157), some (.int (v3 + (6 : Int32)))]) (st2 := []) (g2 := q294.2) cdE_303 rfl ?_
            cases h
            exact ev_wk (L := [some (.ref 1001), some (.ref 0), some (.ref 157), some (.int (v3 + (6 : Int32)))]) hb ⟨rfl, ⟨rfl, ⟨rfl, ⟨rfl, trivial⟩⟩⟩⟩
          · rw [if_neg hc295] at h
            refine ev_iff rfl (cn_f hc295) ?_
            refine ev_rn (n := 1) (i2 := 441) (L2 := [some (.ref 1001), some (.ref 0), some (.ref 157), some (.int v3)]) (st2 := [.int (0 : Int32)]) (g2 := q294.2) cdE_303 rfl ?_
            cases h
            cases hb
            exact ev_ret rfl rt_0
        · rw [if_neg hi293] at h
          cases h
      · rw [if_neg hi292] at h
        cases h
    · rw [if_neg hi290] at h
      cases h
  · rw [if_neg hi289] at h
    cases h
def j_La_law_378 (Lx : Nat) (v3 : Int32) (g : M2) : Option ((Int32 × M2) ⊕ (M2 ⊕ (Int32 × M2))) := (if inb (v3 + (1 : Int32)) Lx then (if inb (v3 + (2 : Int32)) Lx then (if inb (v3 + (3 : Int32)) Lx then ((f_Da_hush (g.1 1001 (v3 + (1 : Int32)).toNatClampNeg) (g.1 1001 (v3 + (2 : Int32)).toNatClampNeg) (g.1 1001 (v3 + (3 : Int32)).toNatClampNeg) g).bind fun q299 => (if inb (v3 + (1 : Int32)) Lx then (if inb (v3 + (2 : Int32)) Lx then (if inb (v3 + (3 : Int32)) Lx then ((f_Mo_hush (q299.2.1 1001 (v3 + (1 : Int32)).toNatClampNeg) (q299.2.1 1001 (v3 + (2 : Int32)).toNatClampNeg) (q299.2.1 1001 (v3 + (3 : Int32)).toNatClampNeg) q299.2).bind fun q303 => (if q299.1 = q303.1 then some (.inl ((v3 + (6 : Int32)), q303.2)) else some (.inr (.inr ((0 : Int32), q303.2))))) else none) else none) else none)) else none) else none) else none)
set_option maxRecDepth 100000 in
theorem tj_La_law_378 {Lx : Nat}  (v3 : Int32)  (g : M2) {b : (Int32 × M2) ⊕ (M2 ⊕ (Int32 × M2))} {o : Option Value × M2} (h : j_La_law_378 Lx v3 g = some b) (hb : Sum.elim (fun s => Ev Lx 303 cd_303 10 [some (.ref 1001), some (.ref 0), some (.ref 157), some (.int s.1)] [] s.2 o) (Sum.elim (fun e => Ev Lx 303 cd_303 1260 [] [] e o) (fun r => o = (some (.int r.1), r.2))) b) : Ev Lx 303 cd_303 378 [some (.ref 1001), some (.ref 0), some (.ref 157), some (.int v3)] [] g o := by
  unfold j_La_law_378 at h
  refine ev_rn (n := 5) (i2 := 383) (L2 := [some (.ref 1001), some (.ref 0), some (.ref 157), some (.int v3)]) (st2 := [.int (v3 + (1 : Int32)), .ref 1001, .ref 0]) (g2 := g) cdE_303 rfl ?_
  by_cases hi296 : inb (v3 + (1 : Int32)) Lx
  · rw [if_pos hi296] at h
    refine ev_iaload (v := .int (g.1 1001 (v3 + (1 : Int32)).toNatClampNeg)) rfl rfl (by decide) hi296 rfl ?_
    refine ev_rn (n := 4) (i2 := 388) (L2 := [some (.ref 1001), some (.ref 0), some (.ref 157), some (.int v3)]) (st2 := [.int (v3 + (2 : Int32)), .ref 1001, .int (g.1 1001 (v3 + (1 : Int32)).toNatClampNeg), .ref 0]) (g2 := g) cdE_303 rfl ?_
    by_cases hi297 : inb (v3 + (2 : Int32)) Lx
    · rw [if_pos hi297] at h
      refine ev_iaload (v := .int (g.1 1001 (v3 + (2 : Int32)).toNatClampNeg)) rfl rfl (by decide) hi297 rfl ?_
      refine ev_rn (n := 4) (i2 := 393) (L2 := [some (.ref 1001), some (.ref 0), some (.ref 157), some (.int v3)]) (st2 := [.int (v3 + (3 : Int32)), .ref 1001, .int (g.1 1001 (v3 + (2 : Int32)).toNatClampNeg), .int (g.1 1001 (v3 + (1 : Int32)).toNatClampNeg), .ref 0]) (g2 := g) cdE_303 rfl ?_
      by_cases hi298 : inb (v3 + (3 : Int32)) Lx
      · rw [if_pos hi298] at h
        refine ev_iaload (v := .int (g.1 1001 (v3 + (3 : Int32)).toNatClampNeg)) rfl rfl (by decide) hi298 rfl ?_
        obtain ⟨q299, hq299, h⟩ := Option.bind_eq_some_iff.mp h
        refine ev_call rfl cdE_158 rfl rfl rfl (e_Da_hush (g.1 1001 (v3 + (1 : Int32)).toNatClampNeg) (g.1 1001 (v3 + (2 : Int32)).toNatClampNeg) (g.1 1001 (v3 + (3 : Int32)).toNatClampNeg)  g hq299) ?_
        refine ev_rn (n := 5) (i2 := 400) (L2 := [some (.ref 1001), some (.ref 0), some (.ref 157), some (.int v3)]) (st2 := [.int (v3 + (1 : Int32)), .ref 1001, .ref 157, .int q299.1]) (g2 := q299.2) cdE_303 rfl ?_
        by_cases hi300 : inb (v3 + (1 : Int32)) Lx
        · rw [if_pos hi300] at h
          refine ev_iaload (v := .int (q299.2.1 1001 (v3 + (1 : Int32)).toNatClampNeg)) rfl rfl (by decide) hi300 rfl ?_
          refine ev_rn (n := 4) (i2 := 405) (L2 := [some (.ref 1001), some (.ref 0), some (.ref 157), some (.int v3)]) (st2 := [.int (v3 + (2 : Int32)), .ref 1001, .int (q299.2.1 1001 (v3 + (1 : Int32)).toNatClampNeg), .ref 157, .int q299.1]) (g2 := q299.2) cdE_303 rfl ?_
          by_cases hi301 : inb (v3 + (2 : Int32)) Lx
          · rw [if_pos hi301] at h
            refine ev_iaload (v := .int (q299.2.1 1001 (v3 + (2 : Int32)).toNatClampNeg)) rfl rfl (by decide) hi301 rfl ?_
            refine ev_rn (n := 4) (i2 := 410) (L2 := [some (.ref 1001), some (.ref 0), some (.ref 157), some (.int v3)]) (st2 := [.int (v3 + (3 : Int32)), .ref 1001, .int (q299.2.1 1001 (v3 + (2 : Int32)).toNatClampNeg), .int (q299.2.1 1001 (v3 + (1 : Int32)).toNatClampNeg), .ref 157, .int q299.1]) (g2 := q299.2) cdE_303 rfl ?_
            by_cases hi302 : inb (v3 + (3 : Int32)) Lx
            · rw [if_pos hi302] at h
              refine ev_iaload (v := .int (q299.2.1 1001 (v3 + (3 : Int32)).toNatClampNeg)) rfl rfl (by decide) hi302 rfl ?_
              obtain ⟨q303, hq303, h⟩ := Option.bind_eq_some_iff.mp h
              refine ev_call rfl cdE_161 rfl rfl rfl (e_Mo_hush (q299.2.1 1001 (v3 + (1 : Int32)).toNatClampNeg) (q299.2.1 1001 (v3 + (2 : Int32)).toNatClampNeg) (q299.2.1 1001 (v3 + (3 : Int32)).toNatClampNeg)  q299.2 hq303) ?_
              by_cases hc304 : q299.1 = q303.1
              · rw [if_pos hc304] at h
                refine ev_ift cdE_303 rfl (cn_t hc304) ?_
                refine ev_rn (n := 2) (i2 := 10) (L2 := [some (.ref 1001), some (.ref 0), some (.ref 157), some (.int (v3 + (6 : Int32)))]) (st2 := []) (g2 := q303.2) cdE_303 rfl ?_
                cases h
                exact ev_wk (L := [some (.ref 1001), some (.ref 0), some (.ref 157), some (.int (v3 + (6 : Int32)))]) hb ⟨rfl, ⟨rfl, ⟨rfl, ⟨rfl, trivial⟩⟩⟩⟩
              · rw [if_neg hc304] at h
                refine ev_iff rfl (cn_f hc304) ?_
                refine ev_rn (n := 1) (i2 := 414) (L2 := [some (.ref 1001), some (.ref 0), some (.ref 157), some (.int v3)]) (st2 := [.int (0 : Int32)]) (g2 := q303.2) cdE_303 rfl ?_
                cases h
                cases hb
                exact ev_ret rfl rt_0
            · rw [if_neg hi302] at h
              cases h
          · rw [if_neg hi301] at h
            cases h
        · rw [if_neg hi300] at h
          cases h
      · rw [if_neg hi298] at h
        cases h
    · rw [if_neg hi297] at h
      cases h
  · rw [if_neg hi296] at h
    cases h
def j_La_law_361 (Lx : Nat) (v3 : Int32) (g : M2) : Option ((Int32 × M2) ⊕ (M2 ⊕ (Int32 × M2))) := (if inb (v3 + (1 : Int32)) Lx then ((f_Da_loud (g.1 1001 (v3 + (1 : Int32)).toNatClampNeg) g).bind fun q306 => (if inb (v3 + (1 : Int32)) Lx then ((f_Mo_loud (q306.2.1 1001 (v3 + (1 : Int32)).toNatClampNeg) q306.2).bind fun q308 => (if q306.1 = q308.1 then some (.inl ((v3 + (6 : Int32)), q308.2)) else some (.inr (.inr ((0 : Int32), q308.2))))) else none)) else none)
set_option maxRecDepth 100000 in
theorem tj_La_law_361 {Lx : Nat}  (v3 : Int32)  (g : M2) {b : (Int32 × M2) ⊕ (M2 ⊕ (Int32 × M2))} {o : Option Value × M2} (h : j_La_law_361 Lx v3 g = some b) (hb : Sum.elim (fun s => Ev Lx 303 cd_303 10 [some (.ref 1001), some (.ref 0), some (.ref 157), some (.int s.1)] [] s.2 o) (Sum.elim (fun e => Ev Lx 303 cd_303 1260 [] [] e o) (fun r => o = (some (.int r.1), r.2))) b) : Ev Lx 303 cd_303 361 [some (.ref 1001), some (.ref 0), some (.ref 157), some (.int v3)] [] g o := by
  unfold j_La_law_361 at h
  refine ev_rn (n := 5) (i2 := 366) (L2 := [some (.ref 1001), some (.ref 0), some (.ref 157), some (.int v3)]) (st2 := [.int (v3 + (1 : Int32)), .ref 1001, .ref 0]) (g2 := g) cdE_303 rfl ?_
  by_cases hi305 : inb (v3 + (1 : Int32)) Lx
  · rw [if_pos hi305] at h
    refine ev_iaload (v := .int (g.1 1001 (v3 + (1 : Int32)).toNatClampNeg)) rfl rfl (by decide) hi305 rfl ?_
    obtain ⟨q306, hq306, h⟩ := Option.bind_eq_some_iff.mp h
    refine ev_call rfl cdE_152 rfl rfl rfl (e_Da_loud (g.1 1001 (v3 + (1 : Int32)).toNatClampNeg)  g hq306) ?_
    refine ev_rn (n := 5) (i2 := 373) (L2 := [some (.ref 1001), some (.ref 0), some (.ref 157), some (.int v3)]) (st2 := [.int (v3 + (1 : Int32)), .ref 1001, .ref 157, .int q306.1]) (g2 := q306.2) cdE_303 rfl ?_
    by_cases hi307 : inb (v3 + (1 : Int32)) Lx
    · rw [if_pos hi307] at h
      refine ev_iaload (v := .int (q306.2.1 1001 (v3 + (1 : Int32)).toNatClampNeg)) rfl rfl (by decide) hi307 rfl ?_
      obtain ⟨q308, hq308, h⟩ := Option.bind_eq_some_iff.mp h
      refine ev_call rfl cdE_153 rfl rfl rfl (e_Mo_loud (q306.2.1 1001 (v3 + (1 : Int32)).toNatClampNeg)  q306.2 hq308) ?_
      by_cases hc309 : q306.1 = q308.1
      · rw [if_pos hc309] at h
        refine ev_ift cdE_303 rfl (cn_t hc309) ?_
        refine ev_rn (n := 2) (i2 := 10) (L2 := [some (.ref 1001), some (.ref 0), some (.ref 157), some (.int (v3 + (6 : Int32)))]) (st2 := []) (g2 := q308.2) cdE_303 rfl ?_
        cases h
        exact ev_wk (L := [some (.ref 1001), some (.ref 0), some (.ref 157), some (.int (v3 + (6 : Int32)))]) hb ⟨rfl, ⟨rfl, ⟨rfl, ⟨rfl, trivial⟩⟩⟩⟩
      · rw [if_neg hc309] at h
        refine ev_iff rfl (cn_f hc309) ?_
        refine ev_rn (n := 1) (i2 := 377) (L2 := [some (.ref 1001), some (.ref 0), some (.ref 157), some (.int v3)]) (st2 := [.int (0 : Int32)]) (g2 := q308.2) cdE_303 rfl ?_
        cases h
        cases hb
        exact ev_ret rfl rt_0
    · rw [if_neg hi307] at h
      cases h
  · rw [if_neg hi305] at h
    cases h
def j_La_law_334 (Lx : Nat) (v3 : Int32) (g : M2) : Option ((Int32 × M2) ⊕ (M2 ⊕ (Int32 × M2))) := (if inb (v3 + (1 : Int32)) Lx then (if inb (v3 + (2 : Int32)) Lx then ((f_Da_louder (g.1 1001 (v3 + (1 : Int32)).toNatClampNeg) (g.1 1001 (v3 + (2 : Int32)).toNatClampNeg) g).bind fun q312 => (if inb (v3 + (1 : Int32)) Lx then (if inb (v3 + (2 : Int32)) Lx then ((f_Mo_louder (q312.2.1 1001 (v3 + (1 : Int32)).toNatClampNeg) (q312.2.1 1001 (v3 + (2 : Int32)).toNatClampNeg) q312.2).bind fun q315 => (if q312.1 = q315.1 then some (.inl ((v3 + (6 : Int32)), q315.2)) else some (.inr (.inr ((0 : Int32), q315.2))))) else none) else none)) else none) else none)
set_option maxRecDepth 100000 in
theorem tj_La_law_334 {Lx : Nat}  (v3 : Int32)  (g : M2) {b : (Int32 × M2) ⊕ (M2 ⊕ (Int32 × M2))} {o : Option Value × M2} (h : j_La_law_334 Lx v3 g = some b) (hb : Sum.elim (fun s => Ev Lx 303 cd_303 10 [some (.ref 1001), some (.ref 0), some (.ref 157), some (.int s.1)] [] s.2 o) (Sum.elim (fun e => Ev Lx 303 cd_303 1260 [] [] e o) (fun r => o = (some (.int r.1), r.2))) b) : Ev Lx 303 cd_303 334 [some (.ref 1001), some (.ref 0), some (.ref 157), some (.int v3)] [] g o := by
  unfold j_La_law_334 at h
  refine ev_rn (n := 5) (i2 := 339) (L2 := [some (.ref 1001), some (.ref 0), some (.ref 157), some (.int v3)]) (st2 := [.int (v3 + (1 : Int32)), .ref 1001, .ref 0]) (g2 := g) cdE_303 rfl ?_
  by_cases hi310 : inb (v3 + (1 : Int32)) Lx
  · rw [if_pos hi310] at h
    refine ev_iaload (v := .int (g.1 1001 (v3 + (1 : Int32)).toNatClampNeg)) rfl rfl (by decide) hi310 rfl ?_
    refine ev_rn (n := 4) (i2 := 344) (L2 := [some (.ref 1001), some (.ref 0), some (.ref 157), some (.int v3)]) (st2 := [.int (v3 + (2 : Int32)), .ref 1001, .int (g.1 1001 (v3 + (1 : Int32)).toNatClampNeg), .ref 0]) (g2 := g) cdE_303 rfl ?_
    by_cases hi311 : inb (v3 + (2 : Int32)) Lx
    · rw [if_pos hi311] at h
      refine ev_iaload (v := .int (g.1 1001 (v3 + (2 : Int32)).toNatClampNeg)) rfl rfl (by decide) hi311 rfl ?_
      obtain ⟨q312, hq312, h⟩ := Option.bind_eq_some_iff.mp h
      refine ev_call rfl cdE_146 rfl rfl rfl (e_Da_louder (g.1 1001 (v3 + (1 : Int32)).toNatClampNeg) (g.1 1001 (v3 + (2 : Int32)).toNatClampNeg)  g hq312) ?_
      refine ev_rn (n := 5) (i2 := 351) (L2 := [some (.ref 1001), some (.ref 0), some (.ref 157), some (.int v3)]) (st2 := [.int (v3 + (1 : Int32)), .ref 1001, .ref 157, .int q312.1]) (g2 := q312.2) cdE_303 rfl ?_
      by_cases hi313 : inb (v3 + (1 : Int32)) Lx
      · rw [if_pos hi313] at h
        refine ev_iaload (v := .int (q312.2.1 1001 (v3 + (1 : Int32)).toNatClampNeg)) rfl rfl (by decide) hi313 rfl ?_
        refine ev_rn (n := 4) (i2 := 356) (L2 := [some (.ref 1001), some (.ref 0), some (.ref 157), some (.int v3)]) (st2 := [.int (v3 + (2 : Int32)), .ref 1001, .int (q312.2.1 1001 (v3 + (1 : Int32)).toNatClampNeg), .ref 157, .int q312.1]) (g2 := q312.2) cdE_303 rfl ?_
        by_cases hi314 : inb (v3 + (2 : Int32)) Lx
        · rw [if_pos hi314] at h
          refine ev_iaload (v := .int (q312.2.1 1001 (v3 + (2 : Int32)).toNatClampNeg)) rfl rfl (by decide) hi314 rfl ?_
          obtain ⟨q315, hq315, h⟩ := Option.bind_eq_some_iff.mp h
          refine ev_call rfl cdE_150 rfl rfl rfl (e_Mo_louder (q312.2.1 1001 (v3 + (1 : Int32)).toNatClampNeg) (q312.2.1 1001 (v3 + (2 : Int32)).toNatClampNeg)  q312.2 hq315) ?_
          by_cases hc316 : q312.1 = q315.1
          · rw [if_pos hc316] at h
            refine ev_ift cdE_303 rfl (cn_t hc316) ?_
            refine ev_rn (n := 2) (i2 := 10) (L2 := [some (.ref 1001), some (.ref 0), some (.ref 157), some (.int (v3 + (6 : Int32)))]) (st2 := []) (g2 := q315.2) cdE_303 rfl ?_
            cases h
            exact ev_wk (L := [some (.ref 1001), some (.ref 0), some (.ref 157), some (.int (v3 + (6 : Int32)))]) hb ⟨rfl, ⟨rfl, ⟨rfl, ⟨rfl, trivial⟩⟩⟩⟩
          · rw [if_neg hc316] at h
            refine ev_iff rfl (cn_f hc316) ?_
            refine ev_rn (n := 1) (i2 := 360) (L2 := [some (.ref 1001), some (.ref 0), some (.ref 157), some (.int v3)]) (st2 := [.int (0 : Int32)]) (g2 := q315.2) cdE_303 rfl ?_
            cases h
            cases hb
            exact ev_ret rfl rt_0
        · rw [if_neg hi314] at h
          cases h
      · rw [if_neg hi313] at h
        cases h
    · rw [if_neg hi311] at h
      cases h
  · rw [if_neg hi310] at h
    cases h
def j_La_law_316 (Lx : Nat) (v3 : Int32) (g : M2) : Option ((Int32 × M2) ⊕ (M2 ⊕ (Int32 × M2))) := (if inb (v3 + (1 : Int32)) Lx then ((f_Da_total (g.1 1001 (v3 + (1 : Int32)).toNatClampNeg) g).bind fun q318 => (if inb (v3 + (1 : Int32)) Lx then ((f_Mo_total (q318.2.1 1001 (v3 + (1 : Int32)).toNatClampNeg) q318.2).bind fun q320 => (if q318.1 = q320.1 then some (.inl ((v3 + (6 : Int32)), q320.2)) else some (.inr (.inr ((0 : Int32), q320.2))))) else none)) else none)
set_option maxRecDepth 100000 in
theorem tj_La_law_316 {Lx : Nat}  (v3 : Int32)  (g : M2) {b : (Int32 × M2) ⊕ (M2 ⊕ (Int32 × M2))} {o : Option Value × M2} (h : j_La_law_316 Lx v3 g = some b) (hb : Sum.elim (fun s => Ev Lx 303 cd_303 10 [some (.ref 1001), some (.ref 0), some (.ref 157), some (.int s.1)] [] s.2 o) (Sum.elim (fun e => Ev Lx 303 cd_303 1260 [] [] e o) (fun r => o = (some (.int r.1), r.2))) b) : Ev Lx 303 cd_303 316 [some (.ref 1001), some (.ref 0), some (.ref 157), some (.int v3)] [] g o := by
  unfold j_La_law_316 at h
  refine ev_rn (n := 5) (i2 := 321) (L2 := [some (.ref 1001), some (.ref 0), some (.ref 157), some (.int v3)]) (st2 := [.int (v3 + (1 : Int32)), .ref 1001, .ref 0]) (g2 := g) cdE_303 rfl ?_
  by_cases hi317 : inb (v3 + (1 : Int32)) Lx
  · rw [if_pos hi317] at h
    refine ev_iaload (v := .int (g.1 1001 (v3 + (1 : Int32)).toNatClampNeg)) rfl rfl (by decide) hi317 rfl ?_
    obtain ⟨q318, hq318, h⟩ := Option.bind_eq_some_iff.mp h
    refine ev_call rfl cdE_142 rfl rfl rfl (e_Da_total (g.1 1001 (v3 + (1 : Int32)).toNatClampNeg)  g hq318) ?_
    refine ev_rn (n := 5) (i2 := 328) (L2 := [some (.ref 1001), some (.ref 0), some (.ref 157), some (.int v3)]) (st2 := [.int (v3 + (1 : Int32)), .ref 1001, .ref 157, .long q318.1]) (g2 := q318.2) cdE_303 rfl ?_
    by_cases hi319 : inb (v3 + (1 : Int32)) Lx
    · rw [if_pos hi319] at h
      refine ev_iaload (v := .int (q318.2.1 1001 (v3 + (1 : Int32)).toNatClampNeg)) rfl rfl (by decide) hi319 rfl ?_
      obtain ⟨q320, hq320, h⟩ := Option.bind_eq_some_iff.mp h
      refine ev_call rfl cdE_143 rfl rfl rfl (e_Mo_total (q318.2.1 1001 (v3 + (1 : Int32)).toNatClampNeg)  q318.2 hq320) ?_
      refine ev_rn (n := 1) (i2 := 331) (L2 := [some (.ref 1001), some (.ref 0), some (.ref 157), some (.int v3)]) (st2 := [.int (lg_cmp q318.1 q320.1)]) (g2 := q320.2) cdE_303 rfl ?_
      by_cases hc321 : q318.1 = q320.1
      · rw [if_pos hc321] at h
        refine ev_zft cdE_303 rfl (lc_eq_t hc321) ?_
        refine ev_rn (n := 2) (i2 := 10) (L2 := [some (.ref 1001), some (.ref 0), some (.ref 157), some (.int (v3 + (6 : Int32)))]) (st2 := []) (g2 := q320.2) cdE_303 rfl ?_
        cases h
        exact ev_wk (L := [some (.ref 1001), some (.ref 0), some (.ref 157), some (.int (v3 + (6 : Int32)))]) hb ⟨rfl, ⟨rfl, ⟨rfl, ⟨rfl, trivial⟩⟩⟩⟩
      · rw [if_neg hc321] at h
        refine ev_zff rfl (lc_eq_f hc321) ?_
        refine ev_rn (n := 1) (i2 := 333) (L2 := [some (.ref 1001), some (.ref 0), some (.ref 157), some (.int v3)]) (st2 := [.int (0 : Int32)]) (g2 := q320.2) cdE_303 rfl ?_
        cases h
        cases hb
        exact ev_ret rfl rt_0
    · rw [if_neg hi319] at h
      cases h
  · rw [if_neg hi317] at h
    cases h
def j_La_law_288 (Lx : Nat) (v3 : Int32) (g : M2) : Option ((Int32 × M2) ⊕ (M2 ⊕ (Int32 × M2))) := (if inb (v3 + (1 : Int32)) Lx then (if inb (v3 + (2 : Int32)) Lx then ((f_Da_power (g.1 1001 (v3 + (1 : Int32)).toNatClampNeg) (g.1 1001 (v3 + (2 : Int32)).toNatClampNeg) g).bind fun q324 => (if inb (v3 + (1 : Int32)) Lx then (if inb (v3 + (2 : Int32)) Lx then ((f_Mo_power (q324.2.1 1001 (v3 + (1 : Int32)).toNatClampNeg) (q324.2.1 1001 (v3 + (2 : Int32)).toNatClampNeg) q324.2).bind fun q327 => (if q324.1 = q327.1 then some (.inl ((v3 + (6 : Int32)), q327.2)) else some (.inr (.inr ((0 : Int32), q327.2))))) else none) else none)) else none) else none)
set_option maxRecDepth 100000 in
theorem tj_La_law_288 {Lx : Nat}  (v3 : Int32)  (g : M2) {b : (Int32 × M2) ⊕ (M2 ⊕ (Int32 × M2))} {o : Option Value × M2} (h : j_La_law_288 Lx v3 g = some b) (hb : Sum.elim (fun s => Ev Lx 303 cd_303 10 [some (.ref 1001), some (.ref 0), some (.ref 157), some (.int s.1)] [] s.2 o) (Sum.elim (fun e => Ev Lx 303 cd_303 1260 [] [] e o) (fun r => o = (some (.int r.1), r.2))) b) : Ev Lx 303 cd_303 288 [some (.ref 1001), some (.ref 0), some (.ref 157), some (.int v3)] [] g o := by
  unfold j_La_law_288 at h
  refine ev_rn (n := 5) (i2 := 293) (L2 := [some (.ref 1001), some (.ref 0), some (.ref 157), some (.int v3)]) (st2 := [.int (v3 + (1 : Int32)), .ref 1001, .ref 0]) (g2 := g) cdE_303 rfl ?_
  by_cases hi322 : inb (v3 + (1 : Int32)) Lx
  · rw [if_pos hi322] at h
    refine ev_iaload (v := .int (g.1 1001 (v3 + (1 : Int32)).toNatClampNeg)) rfl rfl (by decide) hi322 rfl ?_
    refine ev_rn (n := 4) (i2 := 298) (L2 := [some (.ref 1001), some (.ref 0), some (.ref 157), some (.int v3)]) (st2 := [.int (v3 + (2 : Int32)), .ref 1001, .int (g.1 1001 (v3 + (1 : Int32)).toNatClampNeg), .ref 0]) (g2 := g) cdE_303 rfl ?_
    by_cases hi323 : inb (v3 + (2 : Int32)) Lx
    · rw [if_pos hi323] at h
      refine ev_iaload (v := .int (g.1 1001 (v3 + (2 : Int32)).toNatClampNeg)) rfl rfl (by decide) hi323 rfl ?_
      obtain ⟨q324, hq324, h⟩ := Option.bind_eq_some_iff.mp h
      refine ev_call rfl cdE_136 rfl rfl rfl (e_Da_power (g.1 1001 (v3 + (1 : Int32)).toNatClampNeg) (g.1 1001 (v3 + (2 : Int32)).toNatClampNeg)  g hq324) ?_
      refine ev_rn (n := 5) (i2 := 305) (L2 := [some (.ref 1001), some (.ref 0), some (.ref 157), some (.int v3)]) (st2 := [.int (v3 + (1 : Int32)), .ref 1001, .ref 157, .long q324.1]) (g2 := q324.2) cdE_303 rfl ?_
      by_cases hi325 : inb (v3 + (1 : Int32)) Lx
      · rw [if_pos hi325] at h
        refine ev_iaload (v := .int (q324.2.1 1001 (v3 + (1 : Int32)).toNatClampNeg)) rfl rfl (by decide) hi325 rfl ?_
        refine ev_rn (n := 4) (i2 := 310) (L2 := [some (.ref 1001), some (.ref 0), some (.ref 157), some (.int v3)]) (st2 := [.int (v3 + (2 : Int32)), .ref 1001, .int (q324.2.1 1001 (v3 + (1 : Int32)).toNatClampNeg), .ref 157, .long q324.1]) (g2 := q324.2) cdE_303 rfl ?_
        by_cases hi326 : inb (v3 + (2 : Int32)) Lx
        · rw [if_pos hi326] at h
          refine ev_iaload (v := .int (q324.2.1 1001 (v3 + (2 : Int32)).toNatClampNeg)) rfl rfl (by decide) hi326 rfl ?_
          obtain ⟨q327, hq327, h⟩ := Option.bind_eq_some_iff.mp h
          refine ev_call rfl cdE_139 rfl rfl rfl (e_Mo_power (q324.2.1 1001 (v3 + (1 : Int32)).toNatClampNeg) (q324.2.1 1001 (v3 + (2 : Int32)).toNatClampNeg)  q324.2 hq327) ?_
          refine ev_rn (n := 1) (i2 := 313) (L2 := [some (.ref 1001), some (.ref 0), some (.ref 157), some (.int v3)]) (st2 := [.int (lg_cmp q324.1 q327.1)]) (g2 := q327.2) cdE_303 rfl ?_
          by_cases hc328 : q324.1 = q327.1
          · rw [if_pos hc328] at h
            refine ev_zft cdE_303 rfl (lc_eq_t hc328) ?_
            refine ev_rn (n := 2) (i2 := 10) (L2 := [some (.ref 1001), some (.ref 0), some (.ref 157), some (.int (v3 + (6 : Int32)))]) (st2 := []) (g2 := q327.2) cdE_303 rfl ?_
            cases h
            exact ev_wk (L := [some (.ref 1001), some (.ref 0), some (.ref 157), some (.int (v3 + (6 : Int32)))]) hb ⟨rfl, ⟨rfl, ⟨rfl, ⟨rfl, trivial⟩⟩⟩⟩
          · rw [if_neg hc328] at h
            refine ev_zff rfl (lc_eq_f hc328) ?_
            refine ev_rn (n := 1) (i2 := 315) (L2 := [some (.ref 1001), some (.ref 0), some (.ref 157), some (.int v3)]) (st2 := [.int (0 : Int32)]) (g2 := q327.2) cdE_303 rfl ?_
            cases h
            cases hb
            exact ev_ret rfl rt_0
        · rw [if_neg hi326] at h
          cases h
      · rw [if_neg hi325] at h
        cases h
    · rw [if_neg hi323] at h
      cases h
  · rw [if_neg hi322] at h
    cases h
def j_La_law_260 (Lx : Nat) (v3 : Int32) (g : M2) : Option ((Int32 × M2) ⊕ (M2 ⊕ (Int32 × M2))) := (if inb (v3 + (1 : Int32)) Lx then (if inb (v3 + (2 : Int32)) Lx then ((f_Da_gain (g.1 1001 (v3 + (1 : Int32)).toNatClampNeg) (g.1 1001 (v3 + (2 : Int32)).toNatClampNeg) g).bind fun q331 => (if inb (v3 + (1 : Int32)) Lx then (if inb (v3 + (2 : Int32)) Lx then ((f_Mo_gain (q331.2.1 1001 (v3 + (1 : Int32)).toNatClampNeg) (q331.2.1 1001 (v3 + (2 : Int32)).toNatClampNeg) q331.2).bind fun q334 => (if q331.1 = q334.1 then some (.inl ((v3 + (6 : Int32)), q334.2)) else some (.inr (.inr ((0 : Int32), q334.2))))) else none) else none)) else none) else none)
set_option maxRecDepth 100000 in
theorem tj_La_law_260 {Lx : Nat}  (v3 : Int32)  (g : M2) {b : (Int32 × M2) ⊕ (M2 ⊕ (Int32 × M2))} {o : Option Value × M2} (h : j_La_law_260 Lx v3 g = some b) (hb : Sum.elim (fun s => Ev Lx 303 cd_303 10 [some (.ref 1001), some (.ref 0), some (.ref 157), some (.int s.1)] [] s.2 o) (Sum.elim (fun e => Ev Lx 303 cd_303 1260 [] [] e o) (fun r => o = (some (.int r.1), r.2))) b) : Ev Lx 303 cd_303 260 [some (.ref 1001), some (.ref 0), some (.ref 157), some (.int v3)] [] g o := by
  unfold j_La_law_260 at h
  refine ev_rn (n := 5) (i2 := 265) (L2 := [some (.ref 1001), some (.ref 0), some (.ref 157), some (.int v3)]) (st2 := [.int (v3 + (1 : Int32)), .ref 1001, .ref 0]) (g2 := g) cdE_303 rfl ?_
  by_cases hi329 : inb (v3 + (1 : Int32)) Lx
  · rw [if_pos hi329] at h
    refine ev_iaload (v := .int (g.1 1001 (v3 + (1 : Int32)).toNatClampNeg)) rfl rfl (by decide) hi329 rfl ?_
    refine ev_rn (n := 4) (i2 := 270) (L2 := [some (.ref 1001), some (.ref 0), some (.ref 157), some (.int v3)]) (st2 := [.int (v3 + (2 : Int32)), .ref 1001, .int (g.1 1001 (v3 + (1 : Int32)).toNatClampNeg), .ref 0]) (g2 := g) cdE_303 rfl ?_
    by_cases hi330 : inb (v3 + (2 : Int32)) Lx
    · rw [if_pos hi330] at h
      refine ev_iaload (v := .int (g.1 1001 (v3 + (2 : Int32)).toNatClampNeg)) rfl rfl (by decide) hi330 rfl ?_
      obtain ⟨q331, hq331, h⟩ := Option.bind_eq_some_iff.mp h
      refine ev_call rfl cdE_133 rfl rfl rfl (e_Da_gain (g.1 1001 (v3 + (1 : Int32)).toNatClampNeg) (g.1 1001 (v3 + (2 : Int32)).toNatClampNeg)  g hq331) ?_
      refine ev_rn (n := 5) (i2 := 277) (L2 := [some (.ref 1001), some (.ref 0), some (.ref 157), some (.int v3)]) (st2 := [.int (v3 + (1 : Int32)), .ref 1001, .ref 157, .long q331.1]) (g2 := q331.2) cdE_303 rfl ?_
      by_cases hi332 : inb (v3 + (1 : Int32)) Lx
      · rw [if_pos hi332] at h
        refine ev_iaload (v := .int (q331.2.1 1001 (v3 + (1 : Int32)).toNatClampNeg)) rfl rfl (by decide) hi332 rfl ?_
        refine ev_rn (n := 4) (i2 := 282) (L2 := [some (.ref 1001), some (.ref 0), some (.ref 157), some (.int v3)]) (st2 := [.int (v3 + (2 : Int32)), .ref 1001, .int (q331.2.1 1001 (v3 + (1 : Int32)).toNatClampNeg), .ref 157, .long q331.1]) (g2 := q331.2) cdE_303 rfl ?_
        by_cases hi333 : inb (v3 + (2 : Int32)) Lx
        · rw [if_pos hi333] at h
          refine ev_iaload (v := .int (q331.2.1 1001 (v3 + (2 : Int32)).toNatClampNeg)) rfl rfl (by decide) hi333 rfl ?_
          obtain ⟨q334, hq334, h⟩ := Option.bind_eq_some_iff.mp h
          refine ev_call rfl cdE_134 rfl rfl rfl (e_Mo_gain (q331.2.1 1001 (v3 + (1 : Int32)).toNatClampNeg) (q331.2.1 1001 (v3 + (2 : Int32)).toNatClampNeg)  q331.2 hq334) ?_
          refine ev_rn (n := 1) (i2 := 285) (L2 := [some (.ref 1001), some (.ref 0), some (.ref 157), some (.int v3)]) (st2 := [.int (lg_cmp q331.1 q334.1)]) (g2 := q334.2) cdE_303 rfl ?_
          by_cases hc335 : q331.1 = q334.1
          · rw [if_pos hc335] at h
            refine ev_zft cdE_303 rfl (lc_eq_t hc335) ?_
            refine ev_rn (n := 2) (i2 := 10) (L2 := [some (.ref 1001), some (.ref 0), some (.ref 157), some (.int (v3 + (6 : Int32)))]) (st2 := []) (g2 := q334.2) cdE_303 rfl ?_
            cases h
            exact ev_wk (L := [some (.ref 1001), some (.ref 0), some (.ref 157), some (.int (v3 + (6 : Int32)))]) hb ⟨rfl, ⟨rfl, ⟨rfl, ⟨rfl, trivial⟩⟩⟩⟩
          · rw [if_neg hc335] at h
            refine ev_zff rfl (lc_eq_f hc335) ?_
            refine ev_rn (n := 1) (i2 := 287) (L2 := [some (.ref 1001), some (.ref 0), some (.ref 157), some (.int v3)]) (st2 := [.int (0 : Int32)]) (g2 := q334.2) cdE_303 rfl ?_
            cases h
            cases hb
            exact ev_ret rfl rt_0
        · rw [if_neg hi333] at h
          cases h
      · rw [if_neg hi332] at h
        cases h
    · rw [if_neg hi330] at h
      cases h
  · rw [if_neg hi329] at h
    cases h
def j_La_law_232 (Lx : Nat) (v3 : Int32) (g : M2) : Option ((Int32 × M2) ⊕ (M2 ⊕ (Int32 × M2))) := (if inb (v3 + (1 : Int32)) Lx then (if inb (v3 + (2 : Int32)) Lx then ((f_Da_weight (g.1 1001 (v3 + (1 : Int32)).toNatClampNeg) (g.1 1001 (v3 + (2 : Int32)).toNatClampNeg) g).bind fun q338 => (if inb (v3 + (1 : Int32)) Lx then (if inb (v3 + (2 : Int32)) Lx then ((f_Mo_weight (q338.2.1 1001 (v3 + (1 : Int32)).toNatClampNeg) (q338.2.1 1001 (v3 + (2 : Int32)).toNatClampNeg) q338.2).bind fun q341 => (if q338.1 = q341.1 then some (.inl ((v3 + (6 : Int32)), q341.2)) else some (.inr (.inr ((0 : Int32), q341.2))))) else none) else none)) else none) else none)
set_option maxRecDepth 100000 in
theorem tj_La_law_232 {Lx : Nat}  (v3 : Int32)  (g : M2) {b : (Int32 × M2) ⊕ (M2 ⊕ (Int32 × M2))} {o : Option Value × M2} (h : j_La_law_232 Lx v3 g = some b) (hb : Sum.elim (fun s => Ev Lx 303 cd_303 10 [some (.ref 1001), some (.ref 0), some (.ref 157), some (.int s.1)] [] s.2 o) (Sum.elim (fun e => Ev Lx 303 cd_303 1260 [] [] e o) (fun r => o = (some (.int r.1), r.2))) b) : Ev Lx 303 cd_303 232 [some (.ref 1001), some (.ref 0), some (.ref 157), some (.int v3)] [] g o := by
  unfold j_La_law_232 at h
  refine ev_rn (n := 5) (i2 := 237) (L2 := [some (.ref 1001), some (.ref 0), some (.ref 157), some (.int v3)]) (st2 := [.int (v3 + (1 : Int32)), .ref 1001, .ref 0]) (g2 := g) cdE_303 rfl ?_
  by_cases hi336 : inb (v3 + (1 : Int32)) Lx
  · rw [if_pos hi336] at h
    refine ev_iaload (v := .int (g.1 1001 (v3 + (1 : Int32)).toNatClampNeg)) rfl rfl (by decide) hi336 rfl ?_
    refine ev_rn (n := 4) (i2 := 242) (L2 := [some (.ref 1001), some (.ref 0), some (.ref 157), some (.int v3)]) (st2 := [.int (v3 + (2 : Int32)), .ref 1001, .int (g.1 1001 (v3 + (1 : Int32)).toNatClampNeg), .ref 0]) (g2 := g) cdE_303 rfl ?_
    by_cases hi337 : inb (v3 + (2 : Int32)) Lx
    · rw [if_pos hi337] at h
      refine ev_iaload (v := .int (g.1 1001 (v3 + (2 : Int32)).toNatClampNeg)) rfl rfl (by decide) hi337 rfl ?_
      obtain ⟨q338, hq338, h⟩ := Option.bind_eq_some_iff.mp h
      refine ev_call rfl cdE_129 rfl rfl rfl (e_Da_weight (g.1 1001 (v3 + (1 : Int32)).toNatClampNeg) (g.1 1001 (v3 + (2 : Int32)).toNatClampNeg)  g hq338) ?_
      refine ev_rn (n := 5) (i2 := 249) (L2 := [some (.ref 1001), some (.ref 0), some (.ref 157), some (.int v3)]) (st2 := [.int (v3 + (1 : Int32)), .ref 1001, .ref 157, .long q338.1]) (g2 := q338.2) cdE_303 rfl ?_
      by_cases hi339 : inb (v3 + (1 : Int32)) Lx
      · rw [if_pos hi339] at h
        refine ev_iaload (v := .int (q338.2.1 1001 (v3 + (1 : Int32)).toNatClampNeg)) rfl rfl (by decide) hi339 rfl ?_
        refine ev_rn (n := 4) (i2 := 254) (L2 := [some (.ref 1001), some (.ref 0), some (.ref 157), some (.int v3)]) (st2 := [.int (v3 + (2 : Int32)), .ref 1001, .int (q338.2.1 1001 (v3 + (1 : Int32)).toNatClampNeg), .ref 157, .long q338.1]) (g2 := q338.2) cdE_303 rfl ?_
        by_cases hi340 : inb (v3 + (2 : Int32)) Lx
        · rw [if_pos hi340] at h
          refine ev_iaload (v := .int (q338.2.1 1001 (v3 + (2 : Int32)).toNatClampNeg)) rfl rfl (by decide) hi340 rfl ?_
          obtain ⟨q341, hq341, h⟩ := Option.bind_eq_some_iff.mp h
          refine ev_call rfl cdE_132 rfl rfl rfl (e_Mo_weight (q338.2.1 1001 (v3 + (1 : Int32)).toNatClampNeg) (q338.2.1 1001 (v3 + (2 : Int32)).toNatClampNeg)  q338.2 hq341) ?_
          refine ev_rn (n := 1) (i2 := 257) (L2 := [some (.ref 1001), some (.ref 0), some (.ref 157), some (.int v3)]) (st2 := [.int (lg_cmp q338.1 q341.1)]) (g2 := q341.2) cdE_303 rfl ?_
          by_cases hc342 : q338.1 = q341.1
          · rw [if_pos hc342] at h
            refine ev_zft cdE_303 rfl (lc_eq_t hc342) ?_
            refine ev_rn (n := 2) (i2 := 10) (L2 := [some (.ref 1001), some (.ref 0), some (.ref 157), some (.int (v3 + (6 : Int32)))]) (st2 := []) (g2 := q341.2) cdE_303 rfl ?_
            cases h
            exact ev_wk (L := [some (.ref 1001), some (.ref 0), some (.ref 157), some (.int (v3 + (6 : Int32)))]) hb ⟨rfl, ⟨rfl, ⟨rfl, ⟨rfl, trivial⟩⟩⟩⟩
          · rw [if_neg hc342] at h
            refine ev_zff rfl (lc_eq_f hc342) ?_
            refine ev_rn (n := 1) (i2 := 259) (L2 := [some (.ref 1001), some (.ref 0), some (.ref 157), some (.int v3)]) (st2 := [.int (0 : Int32)]) (g2 := q341.2) cdE_303 rfl ?_
            cases h
            cases hb
            exact ev_ret rfl rt_0
        · rw [if_neg hi340] at h
          cases h
      · rw [if_neg hi339] at h
        cases h
    · rw [if_neg hi337] at h
      cases h
  · rw [if_neg hi336] at h
    cases h
def j_La_law_225 (Lx : Nat) (v3 : Int32) (g : M2) : Option ((Int32 × M2) ⊕ (M2 ⊕ (Int32 × M2))) := ((f_Da_solved g).bind fun q343 => ((f_Mo_solved q343.2).bind fun q344 => (if q343.1 = q344.1 then some (.inl ((v3 + (6 : Int32)), q344.2)) else some (.inr (.inr ((0 : Int32), q344.2))))))
set_option maxRecDepth 100000 in
theorem tj_La_law_225 {Lx : Nat}  (v3 : Int32)  (g : M2) {b : (Int32 × M2) ⊕ (M2 ⊕ (Int32 × M2))} {o : Option Value × M2} (h : j_La_law_225 Lx v3 g = some b) (hb : Sum.elim (fun s => Ev Lx 303 cd_303 10 [some (.ref 1001), some (.ref 0), some (.ref 157), some (.int s.1)] [] s.2 o) (Sum.elim (fun e => Ev Lx 303 cd_303 1260 [] [] e o) (fun r => o = (some (.int r.1), r.2))) b) : Ev Lx 303 cd_303 225 [some (.ref 1001), some (.ref 0), some (.ref 157), some (.int v3)] [] g o := by
  unfold j_La_law_225 at h
  refine ev_rn (n := 1) (i2 := 226) (L2 := [some (.ref 1001), some (.ref 0), some (.ref 157), some (.int v3)]) (st2 := [.ref 0]) (g2 := g) cdE_303 rfl ?_
  obtain ⟨q343, hq343, h⟩ := Option.bind_eq_some_iff.mp h
  refine ev_call rfl cdE_122 rfl rfl rfl (e_Da_solved   g hq343) ?_
  refine ev_rn (n := 1) (i2 := 228) (L2 := [some (.ref 1001), some (.ref 0), some (.ref 157), some (.int v3)]) (st2 := [.ref 157, .int q343.1]) (g2 := q343.2) cdE_303 rfl ?_
  obtain ⟨q344, hq344, h⟩ := Option.bind_eq_some_iff.mp h
  refine ev_call rfl cdE_123 rfl rfl rfl (e_Mo_solved   q343.2 hq344) ?_
  by_cases hc345 : q343.1 = q344.1
  · rw [if_pos hc345] at h
    refine ev_ift cdE_303 rfl (cn_t hc345) ?_
    refine ev_rn (n := 2) (i2 := 10) (L2 := [some (.ref 1001), some (.ref 0), some (.ref 157), some (.int (v3 + (6 : Int32)))]) (st2 := []) (g2 := q344.2) cdE_303 rfl ?_
    cases h
    exact ev_wk (L := [some (.ref 1001), some (.ref 0), some (.ref 157), some (.int (v3 + (6 : Int32)))]) hb ⟨rfl, ⟨rfl, ⟨rfl, ⟨rfl, trivial⟩⟩⟩⟩
  · rw [if_neg hc345] at h
    refine ev_iff rfl (cn_f hc345) ?_
    refine ev_rn (n := 1) (i2 := 231) (L2 := [some (.ref 1001), some (.ref 0), some (.ref 157), some (.int v3)]) (st2 := [.int (0 : Int32)]) (g2 := q344.2) cdE_303 rfl ?_
    cases h
    cases hb
    exact ev_ret rfl rt_0
def j_La_law_218 (Lx : Nat) (v3 : Int32) (g : M2) : Option ((Int32 × M2) ⊕ (M2 ⊕ (Int32 × M2))) := ((f_Da_rank g).bind fun q346 => ((f_Mo_rank q346.2).bind fun q347 => (if q346.1 = q347.1 then some (.inl ((v3 + (6 : Int32)), q347.2)) else some (.inr (.inr ((0 : Int32), q347.2))))))
set_option maxRecDepth 100000 in
theorem tj_La_law_218 {Lx : Nat}  (v3 : Int32)  (g : M2) {b : (Int32 × M2) ⊕ (M2 ⊕ (Int32 × M2))} {o : Option Value × M2} (h : j_La_law_218 Lx v3 g = some b) (hb : Sum.elim (fun s => Ev Lx 303 cd_303 10 [some (.ref 1001), some (.ref 0), some (.ref 157), some (.int s.1)] [] s.2 o) (Sum.elim (fun e => Ev Lx 303 cd_303 1260 [] [] e o) (fun r => o = (some (.int r.1), r.2))) b) : Ev Lx 303 cd_303 218 [some (.ref 1001), some (.ref 0), some (.ref 157), some (.int v3)] [] g o := by
  unfold j_La_law_218 at h
  refine ev_rn (n := 1) (i2 := 219) (L2 := [some (.ref 1001), some (.ref 0), some (.ref 157), some (.int v3)]) (st2 := [.ref 0]) (g2 := g) cdE_303 rfl ?_
  obtain ⟨q346, hq346, h⟩ := Option.bind_eq_some_iff.mp h
  refine ev_call rfl cdE_120 rfl rfl rfl (e_Da_rank   g hq346) ?_
  refine ev_rn (n := 1) (i2 := 221) (L2 := [some (.ref 1001), some (.ref 0), some (.ref 157), some (.int v3)]) (st2 := [.ref 157, .int q346.1]) (g2 := q346.2) cdE_303 rfl ?_
  obtain ⟨q347, hq347, h⟩ := Option.bind_eq_some_iff.mp h
  refine ev_call rfl cdE_121 rfl rfl rfl (e_Mo_rank   q346.2 hq347) ?_
  by_cases hc348 : q346.1 = q347.1
  · rw [if_pos hc348] at h
    refine ev_ift cdE_303 rfl (cn_t hc348) ?_
    refine ev_rn (n := 2) (i2 := 10) (L2 := [some (.ref 1001), some (.ref 0), some (.ref 157), some (.int (v3 + (6 : Int32)))]) (st2 := []) (g2 := q347.2) cdE_303 rfl ?_
    cases h
    exact ev_wk (L := [some (.ref 1001), some (.ref 0), some (.ref 157), some (.int (v3 + (6 : Int32)))]) hb ⟨rfl, ⟨rfl, ⟨rfl, ⟨rfl, trivial⟩⟩⟩⟩
  · rw [if_neg hc348] at h
    refine ev_iff rfl (cn_f hc348) ?_
    refine ev_rn (n := 1) (i2 := 224) (L2 := [some (.ref 1001), some (.ref 0), some (.ref 157), some (.int v3)]) (st2 := [.int (0 : Int32)]) (g2 := q347.2) cdE_303 rfl ?_
    cases h
    cases hb
    exact ev_ret rfl rt_0
def j_La_law_191 (Lx : Nat) (v3 : Int32) (g : M2) : Option ((Int32 × M2) ⊕ (M2 ⊕ (Int32 × M2))) := (if inb (v3 + (1 : Int32)) Lx then (if inb (v3 + (2 : Int32)) Lx then ((f_Da_wish (g.1 1001 (v3 + (1 : Int32)).toNatClampNeg) (g.1 1001 (v3 + (2 : Int32)).toNatClampNeg) g).bind fun q351 => (if inb (v3 + (1 : Int32)) Lx then (if inb (v3 + (2 : Int32)) Lx then ((f_Mo_wish (q351.2.1 1001 (v3 + (1 : Int32)).toNatClampNeg) (q351.2.1 1001 (v3 + (2 : Int32)).toNatClampNeg) q351.2).bind fun q354 => (if q351.1 = q354.1 then some (.inl ((v3 + (6 : Int32)), q354.2)) else some (.inr (.inr ((0 : Int32), q354.2))))) else none) else none)) else none) else none)
set_option maxRecDepth 100000 in
theorem tj_La_law_191 {Lx : Nat}  (v3 : Int32)  (g : M2) {b : (Int32 × M2) ⊕ (M2 ⊕ (Int32 × M2))} {o : Option Value × M2} (h : j_La_law_191 Lx v3 g = some b) (hb : Sum.elim (fun s => Ev Lx 303 cd_303 10 [some (.ref 1001), some (.ref 0), some (.ref 157), some (.int s.1)] [] s.2 o) (Sum.elim (fun e => Ev Lx 303 cd_303 1260 [] [] e o) (fun r => o = (some (.int r.1), r.2))) b) : Ev Lx 303 cd_303 191 [some (.ref 1001), some (.ref 0), some (.ref 157), some (.int v3)] [] g o := by
  unfold j_La_law_191 at h
  refine ev_rn (n := 5) (i2 := 196) (L2 := [some (.ref 1001), some (.ref 0), some (.ref 157), some (.int v3)]) (st2 := [.int (v3 + (1 : Int32)), .ref 1001, .ref 0]) (g2 := g) cdE_303 rfl ?_
  by_cases hi349 : inb (v3 + (1 : Int32)) Lx
  · rw [if_pos hi349] at h
    refine ev_iaload (v := .int (g.1 1001 (v3 + (1 : Int32)).toNatClampNeg)) rfl rfl (by decide) hi349 rfl ?_
    refine ev_rn (n := 4) (i2 := 201) (L2 := [some (.ref 1001), some (.ref 0), some (.ref 157), some (.int v3)]) (st2 := [.int (v3 + (2 : Int32)), .ref 1001, .int (g.1 1001 (v3 + (1 : Int32)).toNatClampNeg), .ref 0]) (g2 := g) cdE_303 rfl ?_
    by_cases hi350 : inb (v3 + (2 : Int32)) Lx
    · rw [if_pos hi350] at h
      refine ev_iaload (v := .int (g.1 1001 (v3 + (2 : Int32)).toNatClampNeg)) rfl rfl (by decide) hi350 rfl ?_
      obtain ⟨q351, hq351, h⟩ := Option.bind_eq_some_iff.mp h
      refine ev_call rfl cdE_101 rfl rfl rfl (e_Da_wish (g.1 1001 (v3 + (1 : Int32)).toNatClampNeg) (g.1 1001 (v3 + (2 : Int32)).toNatClampNeg)  g hq351) ?_
      refine ev_rn (n := 5) (i2 := 208) (L2 := [some (.ref 1001), some (.ref 0), some (.ref 157), some (.int v3)]) (st2 := [.int (v3 + (1 : Int32)), .ref 1001, .ref 157, .int q351.1]) (g2 := q351.2) cdE_303 rfl ?_
      by_cases hi352 : inb (v3 + (1 : Int32)) Lx
      · rw [if_pos hi352] at h
        refine ev_iaload (v := .int (q351.2.1 1001 (v3 + (1 : Int32)).toNatClampNeg)) rfl rfl (by decide) hi352 rfl ?_
        refine ev_rn (n := 4) (i2 := 213) (L2 := [some (.ref 1001), some (.ref 0), some (.ref 157), some (.int v3)]) (st2 := [.int (v3 + (2 : Int32)), .ref 1001, .int (q351.2.1 1001 (v3 + (1 : Int32)).toNatClampNeg), .ref 157, .int q351.1]) (g2 := q351.2) cdE_303 rfl ?_
        by_cases hi353 : inb (v3 + (2 : Int32)) Lx
        · rw [if_pos hi353] at h
          refine ev_iaload (v := .int (q351.2.1 1001 (v3 + (2 : Int32)).toNatClampNeg)) rfl rfl (by decide) hi353 rfl ?_
          obtain ⟨q354, hq354, h⟩ := Option.bind_eq_some_iff.mp h
          refine ev_call rfl cdE_119 rfl rfl rfl (e_Mo_wish (q351.2.1 1001 (v3 + (1 : Int32)).toNatClampNeg) (q351.2.1 1001 (v3 + (2 : Int32)).toNatClampNeg)  q351.2 hq354) ?_
          by_cases hc355 : q351.1 = q354.1
          · rw [if_pos hc355] at h
            refine ev_ift cdE_303 rfl (cn_t hc355) ?_
            refine ev_rn (n := 2) (i2 := 10) (L2 := [some (.ref 1001), some (.ref 0), some (.ref 157), some (.int (v3 + (6 : Int32)))]) (st2 := []) (g2 := q354.2) cdE_303 rfl ?_
            cases h
            exact ev_wk (L := [some (.ref 1001), some (.ref 0), some (.ref 157), some (.int (v3 + (6 : Int32)))]) hb ⟨rfl, ⟨rfl, ⟨rfl, ⟨rfl, trivial⟩⟩⟩⟩
          · rw [if_neg hc355] at h
            refine ev_iff rfl (cn_f hc355) ?_
            refine ev_rn (n := 1) (i2 := 217) (L2 := [some (.ref 1001), some (.ref 0), some (.ref 157), some (.int v3)]) (st2 := [.int (0 : Int32)]) (g2 := q354.2) cdE_303 rfl ?_
            cases h
            cases hb
            exact ev_ret rfl rt_0
        · rw [if_neg hi353] at h
          cases h
      · rw [if_neg hi352] at h
        cases h
    · rw [if_neg hi350] at h
      cases h
  · rw [if_neg hi349] at h
    cases h
def j_La_law_164 (Lx : Nat) (v3 : Int32) (g : M2) : Option ((Int32 × M2) ⊕ (M2 ⊕ (Int32 × M2))) := (if inb (v3 + (1 : Int32)) Lx then (if inb (v3 + (2 : Int32)) Lx then ((f_Da_hears (g.1 1001 (v3 + (1 : Int32)).toNatClampNeg) (g.1 1001 (v3 + (2 : Int32)).toNatClampNeg) g).bind fun q358 => (if inb (v3 + (1 : Int32)) Lx then (if inb (v3 + (2 : Int32)) Lx then ((f_Mo_hears (g.1 1001 (v3 + (1 : Int32)).toNatClampNeg) (g.1 1001 (v3 + (2 : Int32)).toNatClampNeg) g).bind fun q361 => (if q358 = q361 then some (.inl ((v3 + (6 : Int32)), g)) else some (.inr (.inr ((0 : Int32), g))))) else none) else none)) else none) else none)
set_option maxRecDepth 100000 in
theorem tj_La_law_164 {Lx : Nat}  (v3 : Int32)  (g : M2) {b : (Int32 × M2) ⊕ (M2 ⊕ (Int32 × M2))} {o : Option Value × M2} (h : j_La_law_164 Lx v3 g = some b) (hb : Sum.elim (fun s => Ev Lx 303 cd_303 10 [some (.ref 1001), some (.ref 0), some (.ref 157), some (.int s.1)] [] s.2 o) (Sum.elim (fun e => Ev Lx 303 cd_303 1260 [] [] e o) (fun r => o = (some (.int r.1), r.2))) b) : Ev Lx 303 cd_303 164 [some (.ref 1001), some (.ref 0), some (.ref 157), some (.int v3)] [] g o := by
  unfold j_La_law_164 at h
  refine ev_rn (n := 5) (i2 := 169) (L2 := [some (.ref 1001), some (.ref 0), some (.ref 157), some (.int v3)]) (st2 := [.int (v3 + (1 : Int32)), .ref 1001, .ref 0]) (g2 := g) cdE_303 rfl ?_
  by_cases hi356 : inb (v3 + (1 : Int32)) Lx
  · rw [if_pos hi356] at h
    refine ev_iaload (v := .int (g.1 1001 (v3 + (1 : Int32)).toNatClampNeg)) rfl rfl (by decide) hi356 rfl ?_
    refine ev_rn (n := 4) (i2 := 174) (L2 := [some (.ref 1001), some (.ref 0), some (.ref 157), some (.int v3)]) (st2 := [.int (v3 + (2 : Int32)), .ref 1001, .int (g.1 1001 (v3 + (1 : Int32)).toNatClampNeg), .ref 0]) (g2 := g) cdE_303 rfl ?_
    by_cases hi357 : inb (v3 + (2 : Int32)) Lx
    · rw [if_pos hi357] at h
      refine ev_iaload (v := .int (g.1 1001 (v3 + (2 : Int32)).toNatClampNeg)) rfl rfl (by decide) hi357 rfl ?_
      obtain ⟨q358, hq358, h⟩ := Option.bind_eq_some_iff.mp h
      refine ev_call rfl cdE_72 rfl rfl rfl (e_Da_hears (g.1 1001 (v3 + (1 : Int32)).toNatClampNeg) (g.1 1001 (v3 + (2 : Int32)).toNatClampNeg)  g hq358) ?_
      refine ev_rn (n := 5) (i2 := 181) (L2 := [some (.ref 1001), some (.ref 0), some (.ref 157), some (.int v3)]) (st2 := [.int (v3 + (1 : Int32)), .ref 1001, .ref 157, .int q358]) (g2 := g) cdE_303 rfl ?_
      by_cases hi359 : inb (v3 + (1 : Int32)) Lx
      · rw [if_pos hi359] at h
        refine ev_iaload (v := .int (g.1 1001 (v3 + (1 : Int32)).toNatClampNeg)) rfl rfl (by decide) hi359 rfl ?_
        refine ev_rn (n := 4) (i2 := 186) (L2 := [some (.ref 1001), some (.ref 0), some (.ref 157), some (.int v3)]) (st2 := [.int (v3 + (2 : Int32)), .ref 1001, .int (g.1 1001 (v3 + (1 : Int32)).toNatClampNeg), .ref 157, .int q358]) (g2 := g) cdE_303 rfl ?_
        by_cases hi360 : inb (v3 + (2 : Int32)) Lx
        · rw [if_pos hi360] at h
          refine ev_iaload (v := .int (g.1 1001 (v3 + (2 : Int32)).toNatClampNeg)) rfl rfl (by decide) hi360 rfl ?_
          obtain ⟨q361, hq361, h⟩ := Option.bind_eq_some_iff.mp h
          refine ev_call rfl cdE_74 rfl rfl rfl (e_Mo_hears (g.1 1001 (v3 + (1 : Int32)).toNatClampNeg) (g.1 1001 (v3 + (2 : Int32)).toNatClampNeg)  g hq361) ?_
          by_cases hc362 : q358 = q361
          · rw [if_pos hc362] at h
            refine ev_ift cdE_303 rfl (cn_t hc362) ?_
            refine ev_rn (n := 2) (i2 := 10) (L2 := [some (.ref 1001), some (.ref 0), some (.ref 157), some (.int (v3 + (6 : Int32)))]) (st2 := []) (g2 := g) cdE_303 rfl ?_
            cases h
            exact ev_wk (L := [some (.ref 1001), some (.ref 0), some (.ref 157), some (.int (v3 + (6 : Int32)))]) hb ⟨rfl, ⟨rfl, ⟨rfl, ⟨rfl, trivial⟩⟩⟩⟩
          · rw [if_neg hc362] at h
            refine ev_iff rfl (cn_f hc362) ?_
            refine ev_rn (n := 1) (i2 := 190) (L2 := [some (.ref 1001), some (.ref 0), some (.ref 157), some (.int v3)]) (st2 := [.int (0 : Int32)]) (g2 := g) cdE_303 rfl ?_
            cases h
            cases hb
            exact ev_ret rfl rt_0
        · rw [if_neg hi360] at h
          cases h
      · rw [if_neg hi359] at h
        cases h
    · rw [if_neg hi357] at h
      cases h
  · rw [if_neg hi356] at h
    cases h
def j_La_law_137 (Lx : Nat) (v3 : Int32) (g : M2) : Option ((Int32 × M2) ⊕ (M2 ⊕ (Int32 × M2))) := (if inb (v3 + (1 : Int32)) Lx then (if inb (v3 + (2 : Int32)) Lx then ((f_Da_element (g.1 1001 (v3 + (1 : Int32)).toNatClampNeg) (g.1 1001 (v3 + (2 : Int32)).toNatClampNeg) g).bind fun q365 => (if inb (v3 + (1 : Int32)) Lx then (if inb (v3 + (2 : Int32)) Lx then ((f_Mo_element (g.1 1001 (v3 + (1 : Int32)).toNatClampNeg) (g.1 1001 (v3 + (2 : Int32)).toNatClampNeg) g).bind fun q368 => (if q365 = q368 then some (.inl ((v3 + (6 : Int32)), g)) else some (.inr (.inr ((0 : Int32), g))))) else none) else none)) else none) else none)
set_option maxRecDepth 100000 in
theorem tj_La_law_137 {Lx : Nat}  (v3 : Int32)  (g : M2) {b : (Int32 × M2) ⊕ (M2 ⊕ (Int32 × M2))} {o : Option Value × M2} (h : j_La_law_137 Lx v3 g = some b) (hb : Sum.elim (fun s => Ev Lx 303 cd_303 10 [some (.ref 1001), some (.ref 0), some (.ref 157), some (.int s.1)] [] s.2 o) (Sum.elim (fun e => Ev Lx 303 cd_303 1260 [] [] e o) (fun r => o = (some (.int r.1), r.2))) b) : Ev Lx 303 cd_303 137 [some (.ref 1001), some (.ref 0), some (.ref 157), some (.int v3)] [] g o := by
  unfold j_La_law_137 at h
  refine ev_rn (n := 5) (i2 := 142) (L2 := [some (.ref 1001), some (.ref 0), some (.ref 157), some (.int v3)]) (st2 := [.int (v3 + (1 : Int32)), .ref 1001, .ref 0]) (g2 := g) cdE_303 rfl ?_
  by_cases hi363 : inb (v3 + (1 : Int32)) Lx
  · rw [if_pos hi363] at h
    refine ev_iaload (v := .int (g.1 1001 (v3 + (1 : Int32)).toNatClampNeg)) rfl rfl (by decide) hi363 rfl ?_
    refine ev_rn (n := 4) (i2 := 147) (L2 := [some (.ref 1001), some (.ref 0), some (.ref 157), some (.int v3)]) (st2 := [.int (v3 + (2 : Int32)), .ref 1001, .int (g.1 1001 (v3 + (1 : Int32)).toNatClampNeg), .ref 0]) (g2 := g) cdE_303 rfl ?_
    by_cases hi364 : inb (v3 + (2 : Int32)) Lx
    · rw [if_pos hi364] at h
      refine ev_iaload (v := .int (g.1 1001 (v3 + (2 : Int32)).toNatClampNeg)) rfl rfl (by decide) hi364 rfl ?_
      obtain ⟨q365, hq365, h⟩ := Option.bind_eq_some_iff.mp h
      refine ev_call rfl cdE_68 rfl rfl rfl (e_Da_element (g.1 1001 (v3 + (1 : Int32)).toNatClampNeg) (g.1 1001 (v3 + (2 : Int32)).toNatClampNeg)  g hq365) ?_
      refine ev_rn (n := 5) (i2 := 154) (L2 := [some (.ref 1001), some (.ref 0), some (.ref 157), some (.int v3)]) (st2 := [.int (v3 + (1 : Int32)), .ref 1001, .ref 157, .int q365]) (g2 := g) cdE_303 rfl ?_
      by_cases hi366 : inb (v3 + (1 : Int32)) Lx
      · rw [if_pos hi366] at h
        refine ev_iaload (v := .int (g.1 1001 (v3 + (1 : Int32)).toNatClampNeg)) rfl rfl (by decide) hi366 rfl ?_
        refine ev_rn (n := 4) (i2 := 159) (L2 := [some (.ref 1001), some (.ref 0), some (.ref 157), some (.int v3)]) (st2 := [.int (v3 + (2 : Int32)), .ref 1001, .int (g.1 1001 (v3 + (1 : Int32)).toNatClampNeg), .ref 157, .int q365]) (g2 := g) cdE_303 rfl ?_
        by_cases hi367 : inb (v3 + (2 : Int32)) Lx
        · rw [if_pos hi367] at h
          refine ev_iaload (v := .int (g.1 1001 (v3 + (2 : Int32)).toNatClampNeg)) rfl rfl (by decide) hi367 rfl ?_
          obtain ⟨q368, hq368, h⟩ := Option.bind_eq_some_iff.mp h
          refine ev_call rfl cdE_70 rfl rfl rfl (e_Mo_element (g.1 1001 (v3 + (1 : Int32)).toNatClampNeg) (g.1 1001 (v3 + (2 : Int32)).toNatClampNeg)  g hq368) ?_
          by_cases hc369 : q365 = q368
          · rw [if_pos hc369] at h
            refine ev_ift cdE_303 rfl (cn_t hc369) ?_
            refine ev_rn (n := 2) (i2 := 10) (L2 := [some (.ref 1001), some (.ref 0), some (.ref 157), some (.int (v3 + (6 : Int32)))]) (st2 := []) (g2 := g) cdE_303 rfl ?_
            cases h
            exact ev_wk (L := [some (.ref 1001), some (.ref 0), some (.ref 157), some (.int (v3 + (6 : Int32)))]) hb ⟨rfl, ⟨rfl, ⟨rfl, ⟨rfl, trivial⟩⟩⟩⟩
          · rw [if_neg hc369] at h
            refine ev_iff rfl (cn_f hc369) ?_
            refine ev_rn (n := 1) (i2 := 163) (L2 := [some (.ref 1001), some (.ref 0), some (.ref 157), some (.int v3)]) (st2 := [.int (0 : Int32)]) (g2 := g) cdE_303 rfl ?_
            cases h
            cases hb
            exact ev_ret rfl rt_0
        · rw [if_neg hi367] at h
          cases h
      · rw [if_neg hi366] at h
        cases h
    · rw [if_neg hi364] at h
      cases h
  · rw [if_neg hi363] at h
    cases h
def j_La_law_120 (Lx : Nat) (v3 : Int32) (g : M2) : Option ((Int32 × M2) ⊕ (M2 ⊕ (Int32 × M2))) := (if inb (v3 + (1 : Int32)) Lx then ((f_Da_count (g.1 1001 (v3 + (1 : Int32)).toNatClampNeg) g).bind fun q371 => (if inb (v3 + (1 : Int32)) Lx then ((f_Mo_count (g.1 1001 (v3 + (1 : Int32)).toNatClampNeg) g).bind fun q373 => (if q371 = q373 then some (.inl ((v3 + (6 : Int32)), g)) else some (.inr (.inr ((0 : Int32), g))))) else none)) else none)
set_option maxRecDepth 100000 in
theorem tj_La_law_120 {Lx : Nat}  (v3 : Int32)  (g : M2) {b : (Int32 × M2) ⊕ (M2 ⊕ (Int32 × M2))} {o : Option Value × M2} (h : j_La_law_120 Lx v3 g = some b) (hb : Sum.elim (fun s => Ev Lx 303 cd_303 10 [some (.ref 1001), some (.ref 0), some (.ref 157), some (.int s.1)] [] s.2 o) (Sum.elim (fun e => Ev Lx 303 cd_303 1260 [] [] e o) (fun r => o = (some (.int r.1), r.2))) b) : Ev Lx 303 cd_303 120 [some (.ref 1001), some (.ref 0), some (.ref 157), some (.int v3)] [] g o := by
  unfold j_La_law_120 at h
  refine ev_rn (n := 5) (i2 := 125) (L2 := [some (.ref 1001), some (.ref 0), some (.ref 157), some (.int v3)]) (st2 := [.int (v3 + (1 : Int32)), .ref 1001, .ref 0]) (g2 := g) cdE_303 rfl ?_
  by_cases hi370 : inb (v3 + (1 : Int32)) Lx
  · rw [if_pos hi370] at h
    refine ev_iaload (v := .int (g.1 1001 (v3 + (1 : Int32)).toNatClampNeg)) rfl rfl (by decide) hi370 rfl ?_
    obtain ⟨q371, hq371, h⟩ := Option.bind_eq_some_iff.mp h
    refine ev_call rfl cdE_60 rfl rfl rfl (e_Da_count (g.1 1001 (v3 + (1 : Int32)).toNatClampNeg)  g hq371) ?_
    refine ev_rn (n := 5) (i2 := 132) (L2 := [some (.ref 1001), some (.ref 0), some (.ref 157), some (.int v3)]) (st2 := [.int (v3 + (1 : Int32)), .ref 1001, .ref 157, .int q371]) (g2 := g) cdE_303 rfl ?_
    by_cases hi372 : inb (v3 + (1 : Int32)) Lx
    · rw [if_pos hi372] at h
      refine ev_iaload (v := .int (g.1 1001 (v3 + (1 : Int32)).toNatClampNeg)) rfl rfl (by decide) hi372 rfl ?_
      obtain ⟨q373, hq373, h⟩ := Option.bind_eq_some_iff.mp h
      refine ev_call rfl cdE_64 rfl rfl rfl (e_Mo_count (g.1 1001 (v3 + (1 : Int32)).toNatClampNeg)  g hq373) ?_
      by_cases hc374 : q371 = q373
      · rw [if_pos hc374] at h
        refine ev_ift cdE_303 rfl (cn_t hc374) ?_
        refine ev_rn (n := 2) (i2 := 10) (L2 := [some (.ref 1001), some (.ref 0), some (.ref 157), some (.int (v3 + (6 : Int32)))]) (st2 := []) (g2 := g) cdE_303 rfl ?_
        cases h
        exact ev_wk (L := [some (.ref 1001), some (.ref 0), some (.ref 157), some (.int (v3 + (6 : Int32)))]) hb ⟨rfl, ⟨rfl, ⟨rfl, ⟨rfl, trivial⟩⟩⟩⟩
      · rw [if_neg hc374] at h
        refine ev_iff rfl (cn_f hc374) ?_
        refine ev_rn (n := 1) (i2 := 136) (L2 := [some (.ref 1001), some (.ref 0), some (.ref 157), some (.int v3)]) (st2 := [.int (0 : Int32)]) (g2 := g) cdE_303 rfl ?_
        cases h
        cases hb
        exact ev_ret rfl rt_0
    · rw [if_neg hi372] at h
      cases h
  · rw [if_neg hi370] at h
    cases h
def j_La_law_103 (Lx : Nat) (v3 : Int32) (g : M2) : Option ((Int32 × M2) ⊕ (M2 ⊕ (Int32 × M2))) := (if inb (v3 + (1 : Int32)) Lx then (if inb (v3 + (1 : Int32)) Lx then (if (f_Da_fault (g.1 1001 (v3 + (1 : Int32)).toNatClampNeg) g) = (f_Mo_fault (g.1 1001 (v3 + (1 : Int32)).toNatClampNeg) g) then some (.inl ((v3 + (6 : Int32)), g)) else some (.inr (.inr ((0 : Int32), g)))) else none) else none)
set_option maxRecDepth 100000 in
theorem tj_La_law_103 {Lx : Nat}  (v3 : Int32)  (g : M2) {b : (Int32 × M2) ⊕ (M2 ⊕ (Int32 × M2))} {o : Option Value × M2} (h : j_La_law_103 Lx v3 g = some b) (hb : Sum.elim (fun s => Ev Lx 303 cd_303 10 [some (.ref 1001), some (.ref 0), some (.ref 157), some (.int s.1)] [] s.2 o) (Sum.elim (fun e => Ev Lx 303 cd_303 1260 [] [] e o) (fun r => o = (some (.int r.1), r.2))) b) : Ev Lx 303 cd_303 103 [some (.ref 1001), some (.ref 0), some (.ref 157), some (.int v3)] [] g o := by
  unfold j_La_law_103 at h
  refine ev_rn (n := 5) (i2 := 108) (L2 := [some (.ref 1001), some (.ref 0), some (.ref 157), some (.int v3)]) (st2 := [.int (v3 + (1 : Int32)), .ref 1001, .ref 0]) (g2 := g) cdE_303 rfl ?_
  by_cases hi375 : inb (v3 + (1 : Int32)) Lx
  · rw [if_pos hi375] at h
    refine ev_iaload (v := .int (g.1 1001 (v3 + (1 : Int32)).toNatClampNeg)) rfl rfl (by decide) hi375 rfl ?_
    refine ev_call rfl cdE_54 rfl rfl rfl (e_Da_fault (g.1 1001 (v3 + (1 : Int32)).toNatClampNeg)  g rfl) ?_
    refine ev_rn (n := 5) (i2 := 115) (L2 := [some (.ref 1001), some (.ref 0), some (.ref 157), some (.int v3)]) (st2 := [.int (v3 + (1 : Int32)), .ref 1001, .ref 157, .int (f_Da_fault (g.1 1001 (v3 + (1 : Int32)).toNatClampNeg) g)]) (g2 := g) cdE_303 rfl ?_
    by_cases hi376 : inb (v3 + (1 : Int32)) Lx
    · rw [if_pos hi376] at h
      refine ev_iaload (v := .int (g.1 1001 (v3 + (1 : Int32)).toNatClampNeg)) rfl rfl (by decide) hi376 rfl ?_
      refine ev_call rfl cdE_55 rfl rfl rfl (e_Mo_fault (g.1 1001 (v3 + (1 : Int32)).toNatClampNeg)  g rfl) ?_
      by_cases hc377 : (f_Da_fault (g.1 1001 (v3 + (1 : Int32)).toNatClampNeg) g) = (f_Mo_fault (g.1 1001 (v3 + (1 : Int32)).toNatClampNeg) g)
      · rw [if_pos hc377] at h
        refine ev_ift cdE_303 rfl (cn_t hc377) ?_
        refine ev_rn (n := 2) (i2 := 10) (L2 := [some (.ref 1001), some (.ref 0), some (.ref 157), some (.int (v3 + (6 : Int32)))]) (st2 := []) (g2 := g) cdE_303 rfl ?_
        cases h
        exact ev_wk (L := [some (.ref 1001), some (.ref 0), some (.ref 157), some (.int (v3 + (6 : Int32)))]) hb ⟨rfl, ⟨rfl, ⟨rfl, ⟨rfl, trivial⟩⟩⟩⟩
      · rw [if_neg hc377] at h
        refine ev_iff rfl (cn_f hc377) ?_
        refine ev_rn (n := 1) (i2 := 119) (L2 := [some (.ref 1001), some (.ref 0), some (.ref 157), some (.int v3)]) (st2 := [.int (0 : Int32)]) (g2 := g) cdE_303 rfl ?_
        cases h
        cases hb
        exact ev_ret rfl rt_0
    · rw [if_neg hi376] at h
      cases h
  · rw [if_neg hi375] at h
    cases h
def j_La_law_96 (Lx : Nat) (v3 : Int32) (g : M2) : Option ((Int32 × M2) ⊕ (M2 ⊕ (Int32 × M2))) := ((f_Da_array g).bind fun q378 => ((f_Mo_array q378.2).bind fun q379 => (if q378.1 = q379.1 then some (.inl ((v3 + (6 : Int32)), q379.2)) else some (.inr (.inr ((0 : Int32), q379.2))))))
set_option maxRecDepth 100000 in
theorem tj_La_law_96 {Lx : Nat}  (v3 : Int32)  (g : M2) {b : (Int32 × M2) ⊕ (M2 ⊕ (Int32 × M2))} {o : Option Value × M2} (h : j_La_law_96 Lx v3 g = some b) (hb : Sum.elim (fun s => Ev Lx 303 cd_303 10 [some (.ref 1001), some (.ref 0), some (.ref 157), some (.int s.1)] [] s.2 o) (Sum.elim (fun e => Ev Lx 303 cd_303 1260 [] [] e o) (fun r => o = (some (.int r.1), r.2))) b) : Ev Lx 303 cd_303 96 [some (.ref 1001), some (.ref 0), some (.ref 157), some (.int v3)] [] g o := by
  unfold j_La_law_96 at h
  refine ev_rn (n := 1) (i2 := 97) (L2 := [some (.ref 1001), some (.ref 0), some (.ref 157), some (.int v3)]) (st2 := [.ref 0]) (g2 := g) cdE_303 rfl ?_
  obtain ⟨q378, hq378, h⟩ := Option.bind_eq_some_iff.mp h
  refine ev_call rfl cdE_41 rfl rfl rfl (e_Da_array   g hq378) ?_
  refine ev_rn (n := 1) (i2 := 99) (L2 := [some (.ref 1001), some (.ref 0), some (.ref 157), some (.int v3)]) (st2 := [.ref 157, .int q378.1]) (g2 := q378.2) cdE_303 rfl ?_
  obtain ⟨q379, hq379, h⟩ := Option.bind_eq_some_iff.mp h
  refine ev_call rfl cdE_53 rfl rfl rfl (e_Mo_array   q378.2 hq379) ?_
  by_cases hc380 : q378.1 = q379.1
  · rw [if_pos hc380] at h
    refine ev_ift cdE_303 rfl (cn_t hc380) ?_
    refine ev_rn (n := 2) (i2 := 10) (L2 := [some (.ref 1001), some (.ref 0), some (.ref 157), some (.int (v3 + (6 : Int32)))]) (st2 := []) (g2 := q379.2) cdE_303 rfl ?_
    cases h
    exact ev_wk (L := [some (.ref 1001), some (.ref 0), some (.ref 157), some (.int (v3 + (6 : Int32)))]) hb ⟨rfl, ⟨rfl, ⟨rfl, ⟨rfl, trivial⟩⟩⟩⟩
  · rw [if_neg hc380] at h
    refine ev_iff rfl (cn_f hc380) ?_
    refine ev_rn (n := 1) (i2 := 102) (L2 := [some (.ref 1001), some (.ref 0), some (.ref 157), some (.int v3)]) (st2 := [.int (0 : Int32)]) (g2 := q379.2) cdE_303 rfl ?_
    cases h
    cases hb
    exact ev_ret rfl rt_0
def j_La_law_79 (Lx : Nat) (v3 : Int32) (g : M2) : Option ((Int32 × M2) ⊕ (M2 ⊕ (Int32 × M2))) := (if inb (v3 + (1 : Int32)) Lx then ((f_Da_end (g.1 1001 (v3 + (1 : Int32)).toNatClampNeg) g).bind fun q382 => (if inb (v3 + (1 : Int32)) Lx then ((f_Mo_end (q382.2.1 1001 (v3 + (1 : Int32)).toNatClampNeg) q382.2).bind fun q384 => (if q382.1 = q384.1 then some (.inl ((v3 + (6 : Int32)), q384.2)) else some (.inr (.inr ((0 : Int32), q384.2))))) else none)) else none)
set_option maxRecDepth 100000 in
theorem tj_La_law_79 {Lx : Nat}  (v3 : Int32)  (g : M2) {b : (Int32 × M2) ⊕ (M2 ⊕ (Int32 × M2))} {o : Option Value × M2} (h : j_La_law_79 Lx v3 g = some b) (hb : Sum.elim (fun s => Ev Lx 303 cd_303 10 [some (.ref 1001), some (.ref 0), some (.ref 157), some (.int s.1)] [] s.2 o) (Sum.elim (fun e => Ev Lx 303 cd_303 1260 [] [] e o) (fun r => o = (some (.int r.1), r.2))) b) : Ev Lx 303 cd_303 79 [some (.ref 1001), some (.ref 0), some (.ref 157), some (.int v3)] [] g o := by
  unfold j_La_law_79 at h
  refine ev_rn (n := 5) (i2 := 84) (L2 := [some (.ref 1001), some (.ref 0), some (.ref 157), some (.int v3)]) (st2 := [.int (v3 + (1 : Int32)), .ref 1001, .ref 0]) (g2 := g) cdE_303 rfl ?_
  by_cases hi381 : inb (v3 + (1 : Int32)) Lx
  · rw [if_pos hi381] at h
    refine ev_iaload (v := .int (g.1 1001 (v3 + (1 : Int32)).toNatClampNeg)) rfl rfl (by decide) hi381 rfl ?_
    obtain ⟨q382, hq382, h⟩ := Option.bind_eq_some_iff.mp h
    refine ev_call rfl cdE_15 rfl rfl rfl (e_Da_end (g.1 1001 (v3 + (1 : Int32)).toNatClampNeg)  g hq382) ?_
    refine ev_rn (n := 5) (i2 := 91) (L2 := [some (.ref 1001), some (.ref 0), some (.ref 157), some (.int v3)]) (st2 := [.int (v3 + (1 : Int32)), .ref 1001, .ref 157, .int q382.1]) (g2 := q382.2) cdE_303 rfl ?_
    by_cases hi383 : inb (v3 + (1 : Int32)) Lx
    · rw [if_pos hi383] at h
      refine ev_iaload (v := .int (q382.2.1 1001 (v3 + (1 : Int32)).toNatClampNeg)) rfl rfl (by decide) hi383 rfl ?_
      obtain ⟨q384, hq384, h⟩ := Option.bind_eq_some_iff.mp h
      refine ev_call rfl cdE_17 rfl rfl rfl (e_Mo_end (q382.2.1 1001 (v3 + (1 : Int32)).toNatClampNeg)  q382.2 hq384) ?_
      by_cases hc385 : q382.1 = q384.1
      · rw [if_pos hc385] at h
        refine ev_ift cdE_303 rfl (cn_t hc385) ?_
        refine ev_rn (n := 2) (i2 := 10) (L2 := [some (.ref 1001), some (.ref 0), some (.ref 157), some (.int (v3 + (6 : Int32)))]) (st2 := []) (g2 := q384.2) cdE_303 rfl ?_
        cases h
        exact ev_wk (L := [some (.ref 1001), some (.ref 0), some (.ref 157), some (.int (v3 + (6 : Int32)))]) hb ⟨rfl, ⟨rfl, ⟨rfl, ⟨rfl, trivial⟩⟩⟩⟩
      · rw [if_neg hc385] at h
        refine ev_iff rfl (cn_f hc385) ?_
        refine ev_rn (n := 1) (i2 := 95) (L2 := [some (.ref 1001), some (.ref 0), some (.ref 157), some (.int v3)]) (st2 := [.int (0 : Int32)]) (g2 := q384.2) cdE_303 rfl ?_
        cases h
        cases hb
        exact ev_ret rfl rt_0
    · rw [if_neg hi383] at h
      cases h
  · rw [if_neg hi381] at h
    cases h
def j_La_law_22 (Lx : Nat) (v3 : Int32) (g : M2) : Option ((Int32 × M2) ⊕ (M2 ⊕ (Int32 × M2))) := (if inb (v3 + (1 : Int32)) Lx then (if inb (v3 + (2 : Int32)) Lx then (if inb (v3 + (3 : Int32)) Lx then (if inb (v3 + (4 : Int32)) Lx then (if inb (v3 + (5 : Int32)) Lx then ((f_Da_feed (g.1 1001 (v3 + (1 : Int32)).toNatClampNeg) (g.1 1001 (v3 + (2 : Int32)).toNatClampNeg) (g.1 1001 (v3 + (3 : Int32)).toNatClampNeg) (g.1 1001 (v3 + (4 : Int32)).toNatClampNeg) (g.1 1001 (v3 + (5 : Int32)).toNatClampNeg) g).bind fun q391 => (if inb (v3 + (1 : Int32)) Lx then (if inb (v3 + (2 : Int32)) Lx then (if inb (v3 + (3 : Int32)) Lx then (if inb (v3 + (4 : Int32)) Lx then (if inb (v3 + (5 : Int32)) Lx then ((f_Mo_feed (q391.2.1 1001 (v3 + (1 : Int32)).toNatClampNeg) (q391.2.1 1001 (v3 + (2 : Int32)).toNatClampNeg) (q391.2.1 1001 (v3 + (3 : Int32)).toNatClampNeg) (q391.2.1 1001 (v3 + (4 : Int32)).toNatClampNeg) (q391.2.1 1001 (v3 + (5 : Int32)).toNatClampNeg) q391.2).bind fun q397 => (if q391.1 = q397.1 then some (.inl ((v3 + (6 : Int32)), q397.2)) else some (.inr (.inr ((0 : Int32), q397.2))))) else none) else none) else none) else none) else none)) else none) else none) else none) else none) else none)
set_option maxRecDepth 100000 in
theorem tj_La_law_22 {Lx : Nat}  (v3 : Int32)  (g : M2) {b : (Int32 × M2) ⊕ (M2 ⊕ (Int32 × M2))} {o : Option Value × M2} (h : j_La_law_22 Lx v3 g = some b) (hb : Sum.elim (fun s => Ev Lx 303 cd_303 10 [some (.ref 1001), some (.ref 0), some (.ref 157), some (.int s.1)] [] s.2 o) (Sum.elim (fun e => Ev Lx 303 cd_303 1260 [] [] e o) (fun r => o = (some (.int r.1), r.2))) b) : Ev Lx 303 cd_303 22 [some (.ref 1001), some (.ref 0), some (.ref 157), some (.int v3)] [] g o := by
  unfold j_La_law_22 at h
  refine ev_rn (n := 5) (i2 := 27) (L2 := [some (.ref 1001), some (.ref 0), some (.ref 157), some (.int v3)]) (st2 := [.int (v3 + (1 : Int32)), .ref 1001, .ref 0]) (g2 := g) cdE_303 rfl ?_
  by_cases hi386 : inb (v3 + (1 : Int32)) Lx
  · rw [if_pos hi386] at h
    refine ev_iaload (v := .int (g.1 1001 (v3 + (1 : Int32)).toNatClampNeg)) rfl rfl (by decide) hi386 rfl ?_
    refine ev_rn (n := 4) (i2 := 32) (L2 := [some (.ref 1001), some (.ref 0), some (.ref 157), some (.int v3)]) (st2 := [.int (v3 + (2 : Int32)), .ref 1001, .int (g.1 1001 (v3 + (1 : Int32)).toNatClampNeg), .ref 0]) (g2 := g) cdE_303 rfl ?_
    by_cases hi387 : inb (v3 + (2 : Int32)) Lx
    · rw [if_pos hi387] at h
      refine ev_iaload (v := .int (g.1 1001 (v3 + (2 : Int32)).toNatClampNeg)) rfl rfl (by decide) hi387 rfl ?_
      refine ev_rn (n := 4) (i2 := 37) (L2 := [some (.ref 1001), some (.ref 0), some (.ref 157), some (.int v3)]) (st2 := [.int (v3 + (3 : Int32)), .ref 1001, .int (g.1 1001 (v3 + (2 : Int32)).toNatClampNeg), .int (g.1 1001 (v3 + (1 : Int32)).toNatClampNeg), .ref 0]) (g2 := g) cdE_303 rfl ?_
      by_cases hi388 : inb (v3 + (3 : Int32)) Lx
      · rw [if_pos hi388] at h
        refine ev_iaload (v := .int (g.1 1001 (v3 + (3 : Int32)).toNatClampNeg)) rfl rfl (by decide) hi388 rfl ?_
        refine ev_rn (n := 4) (i2 := 42) (L2 := [some (.ref 1001), some (.ref 0), some (.ref 157), some (.int v3)]) (st2 := [.int (v3 + (4 : Int32)), .ref 1001, .int (g.1 1001 (v3 + (3 : Int32)).toNatClampNeg), .int (g.1 1001 (v3 + (2 : Int32)).toNatClampNeg), .int (g.1 1001 (v3 + (1 : Int32)).toNatClampNeg), .ref 0]) (g2 := g) cdE_303 rfl ?_
        by_cases hi389 : inb (v3 + (4 : Int32)) Lx
        · rw [if_pos hi389] at h
          refine ev_iaload (v := .int (g.1 1001 (v3 + (4 : Int32)).toNatClampNeg)) rfl rfl (by decide) hi389 rfl ?_
          refine ev_rn (n := 4) (i2 := 47) (L2 := [some (.ref 1001), some (.ref 0), some (.ref 157), some (.int v3)]) (st2 := [.int (v3 + (5 : Int32)), .ref 1001, .int (g.1 1001 (v3 + (4 : Int32)).toNatClampNeg), .int (g.1 1001 (v3 + (3 : Int32)).toNatClampNeg), .int (g.1 1001 (v3 + (2 : Int32)).toNatClampNeg), .int (g.1 1001 (v3 + (1 : Int32)).toNatClampNeg), .ref 0]) (g2 := g) cdE_303 rfl ?_
          by_cases hi390 : inb (v3 + (5 : Int32)) Lx
          · rw [if_pos hi390] at h
            refine ev_iaload (v := .int (g.1 1001 (v3 + (5 : Int32)).toNatClampNeg)) rfl rfl (by decide) hi390 rfl ?_
            obtain ⟨q391, hq391, h⟩ := Option.bind_eq_some_iff.mp h
            refine ev_call rfl cdE_13 rfl rfl rfl (e_Da_feed (g.1 1001 (v3 + (1 : Int32)).toNatClampNeg) (g.1 1001 (v3 + (2 : Int32)).toNatClampNeg) (g.1 1001 (v3 + (3 : Int32)).toNatClampNeg) (g.1 1001 (v3 + (4 : Int32)).toNatClampNeg) (g.1 1001 (v3 + (5 : Int32)).toNatClampNeg)  g hq391) ?_
            refine ev_rn (n := 5) (i2 := 54) (L2 := [some (.ref 1001), some (.ref 0), some (.ref 157), some (.int v3)]) (st2 := [.int (v3 + (1 : Int32)), .ref 1001, .ref 157, .int q391.1]) (g2 := q391.2) cdE_303 rfl ?_
            by_cases hi392 : inb (v3 + (1 : Int32)) Lx
            · rw [if_pos hi392] at h
              refine ev_iaload (v := .int (q391.2.1 1001 (v3 + (1 : Int32)).toNatClampNeg)) rfl rfl (by decide) hi392 rfl ?_
              refine ev_rn (n := 4) (i2 := 59) (L2 := [some (.ref 1001), some (.ref 0), some (.ref 157), some (.int v3)]) (st2 := [.int (v3 + (2 : Int32)), .ref 1001, .int (q391.2.1 1001 (v3 + (1 : Int32)).toNatClampNeg), .ref 157, .int q391.1]) (g2 := q391.2) cdE_303 rfl ?_
              by_cases hi393 : inb (v3 + (2 : Int32)) Lx
              · rw [if_pos hi393] at h
                refine ev_iaload (v := .int (q391.2.1 1001 (v3 + (2 : Int32)).toNatClampNeg)) rfl rfl (by decide) hi393 rfl ?_
                refine ev_rn (n := 4) (i2 := 64) (L2 := [some (.ref 1001), some (.ref 0), some (.ref 157), some (.int v3)]) (st2 := [.int (v3 + (3 : Int32)), .ref 1001, .int (q391.2.1 1001 (v3 + (2 : Int32)).toNatClampNeg), .int (q391.2.1 1001 (v3 + (1 : Int32)).toNatClampNeg), .ref 157, .int q391.1]) (g2 := q391.2) cdE_303 rfl ?_
                by_cases hi394 : inb (v3 + (3 : Int32)) Lx
                · rw [if_pos hi394] at h
                  refine ev_iaload (v := .int (q391.2.1 1001 (v3 + (3 : Int32)).toNatClampNeg)) rfl rfl (by decide) hi394 rfl ?_
                  refine ev_rn (n := 4) (i2 := 69) (L2 := [some (.ref 1001), some (.ref 0), some (.ref 157), some (.int v3)]) (st2 := [.int (v3 + (4 : Int32)), .ref 1001, .int (q391.2.1 1001 (v3 + (3 : Int32)).toNatClampNeg), .int (q391.2.1 1001 (v3 + (2 : Int32)).toNatClampNeg), .int (q391.2.1 1001 (v3 + (1 : Int32)).toNatClampNeg), .ref 157, .int q391.1]) (g2 := q391.2) cdE_303 rfl ?_
                  by_cases hi395 : inb (v3 + (4 : Int32)) Lx
                  · rw [if_pos hi395] at h
                    refine ev_iaload (v := .int (q391.2.1 1001 (v3 + (4 : Int32)).toNatClampNeg)) rfl rfl (by decide) hi395 rfl ?_
                    refine ev_rn (n := 4) (i2 := 74) (L2 := [some (.ref 1001), some (.ref 0), some (.ref 157), some (.int v3)]) (st2 := [.int (v3 + (5 : Int32)), .ref 1001, .int (q391.2.1 1001 (v3 + (4 : Int32)).toNatClampNeg), .int (q391.2.1 1001 (v3 + (3 : Int32)).toNatClampNeg), .int (q391.2.1 1001 (v3 + (2 : Int32)).toNatClampNeg), .int (q391.2.1 1001 (v3 + (1 : Int32)).toNatClampNeg), .ref 157, .int q391.1]) (g2 := q391.2) cdE_303 rfl ?_
                    by_cases hi396 : inb (v3 + (5 : Int32)) Lx
                    · rw [if_pos hi396] at h
                      refine ev_iaload (v := .int (q391.2.1 1001 (v3 + (5 : Int32)).toNatClampNeg)) rfl rfl (by decide) hi396 rfl ?_
                      obtain ⟨q397, hq397, h⟩ := Option.bind_eq_some_iff.mp h
                      refine ev_call rfl cdE_14 rfl rfl rfl (e_Mo_feed (q391.2.1 1001 (v3 + (1 : Int32)).toNatClampNeg) (q391.2.1 1001 (v3 + (2 : Int32)).toNatClampNeg) (q391.2.1 1001 (v3 + (3 : Int32)).toNatClampNeg) (q391.2.1 1001 (v3 + (4 : Int32)).toNatClampNeg) (q391.2.1 1001 (v3 + (5 : Int32)).toNatClampNeg)  q391.2 hq397) ?_
                      by_cases hc398 : q391.1 = q397.1
                      · rw [if_pos hc398] at h
                        refine ev_ift cdE_303 rfl (cn_t hc398) ?_
                        refine ev_rn (n := 2) (i2 := 10) (L2 := [some (.ref 1001), some (.ref 0), some (.ref 157), some (.int (v3 + (6 : Int32)))]) (st2 := []) (g2 := q397.2) cdE_303 rfl ?_
                        cases h
                        exact ev_wk (L := [some (.ref 1001), some (.ref 0), some (.ref 157), some (.int (v3 + (6 : Int32)))]) hb ⟨rfl, ⟨rfl, ⟨rfl, ⟨rfl, trivial⟩⟩⟩⟩
                      · rw [if_neg hc398] at h
                        refine ev_iff rfl (cn_f hc398) ?_
                        refine ev_rn (n := 1) (i2 := 78) (L2 := [some (.ref 1001), some (.ref 0), some (.ref 157), some (.int v3)]) (st2 := [.int (0 : Int32)]) (g2 := q397.2) cdE_303 rfl ?_
                        cases h
                        cases hb
                        exact ev_ret rfl rt_0
                    · rw [if_neg hi396] at h
                      cases h
                  · rw [if_neg hi395] at h
                    cases h
                · rw [if_neg hi394] at h
                  cases h
              · rw [if_neg hi393] at h
                cases h
            · rw [if_neg hi392] at h
              cases h
          · rw [if_neg hi390] at h
            cases h
        · rw [if_neg hi389] at h
          cases h
      · rw [if_neg hi388] at h
        cases h
    · rw [if_neg hi387] at h
      cases h
  · rw [if_neg hi386] at h
    cases h
def b_La_law_10 (Lx : Nat)  (v3 : Int32) (g : M2) : Option ((Int32 × M2) ⊕ (M2 ⊕ (Int32 × M2))) := (if ((Int32.ofNat Lx) - (6 : Int32)) < v3 then some (.inr (.inl g)) else (if inb v3 Lx then (if ((g.1 1001 v3.toNatClampNeg) &&& (63 : Int32)) = 0 then (j_La_law_22 Lx v3 g) else (if ((g.1 1001 v3.toNatClampNeg) &&& (63 : Int32)) = 1 then (j_La_law_79 Lx v3 g) else (if ((g.1 1001 v3.toNatClampNeg) &&& (63 : Int32)) = 2 then (j_La_law_96 Lx v3 g) else (if ((g.1 1001 v3.toNatClampNeg) &&& (63 : Int32)) = 3 then (j_La_law_103 Lx v3 g) else (if ((g.1 1001 v3.toNatClampNeg) &&& (63 : Int32)) = 4 then (j_La_law_120 Lx v3 g) else (if ((g.1 1001 v3.toNatClampNeg) &&& (63 : Int32)) = 5 then (j_La_law_137 Lx v3 g) else (if ((g.1 1001 v3.toNatClampNeg) &&& (63 : Int32)) = 6 then (j_La_law_164 Lx v3 g) else (if ((g.1 1001 v3.toNatClampNeg) &&& (63 : Int32)) = 7 then (j_La_law_191 Lx v3 g) else (if ((g.1 1001 v3.toNatClampNeg) &&& (63 : Int32)) = 8 then (j_La_law_218 Lx v3 g) else (if ((g.1 1001 v3.toNatClampNeg) &&& (63 : Int32)) = 9 then (j_La_law_225 Lx v3 g) else (if ((g.1 1001 v3.toNatClampNeg) &&& (63 : Int32)) = 10 then (j_La_law_232 Lx v3 g) else (if ((g.1 1001 v3.toNatClampNeg) &&& (63 : Int32)) = 11 then (j_La_law_260 Lx v3 g) else (if ((g.1 1001 v3.toNatClampNeg) &&& (63 : Int32)) = 12 then (j_La_law_288 Lx v3 g) else (if ((g.1 1001 v3.toNatClampNeg) &&& (63 : Int32)) = 13 then (j_La_law_316 Lx v3 g) else (if ((g.1 1001 v3.toNatClampNeg) &&& (63 : Int32)) = 14 then (j_La_law_334 Lx v3 g) else (if ((g.1 1001 v3.toNatClampNeg) &&& (63 : Int32)) = 15 then (j_La_law_361 Lx v3 g) else (if ((g.1 1001 v3.toNatClampNeg) &&& (63 : Int32)) = 16 then (j_La_law_378 Lx v3 g) else (if ((g.1 1001 v3.toNatClampNeg) &&& (63 : Int32)) = 17 then (j_La_law_415 Lx v3 g) else (if ((g.1 1001 v3.toNatClampNeg) &&& (63 : Int32)) = 18 then (j_La_law_442 Lx v3 g) else (if ((g.1 1001 v3.toNatClampNeg) &&& (63 : Int32)) = 19 then (j_La_law_470 Lx v3 g) else (if ((g.1 1001 v3.toNatClampNeg) &&& (63 : Int32)) = 20 then (j_La_law_488 Lx v3 g) else (if ((g.1 1001 v3.toNatClampNeg) &&& (63 : Int32)) = 21 then (j_La_law_525 Lx v3 g) else (if ((g.1 1001 v3.toNatClampNeg) &&& (63 : Int32)) = 22 then (j_La_law_542 Lx v3 g) else (if ((g.1 1001 v3.toNatClampNeg) &&& (63 : Int32)) = 23 then (j_La_law_549 Lx v3 g) else (if ((g.1 1001 v3.toNatClampNeg) &&& (63 : Int32)) = 24 then (j_La_law_556 Lx v3 g) else (if ((g.1 1001 v3.toNatClampNeg) &&& (63 : Int32)) = 25 then (j_La_law_583 Lx v3 g) else (if ((g.1 1001 v3.toNatClampNeg) &&& (63 : Int32)) = 26 then (j_La_law_600 Lx v3 g) else (if ((g.1 1001 v3.toNatClampNeg) &&& (63 : Int32)) = 27 then (j_La_law_607 Lx v3 g) else (if ((g.1 1001 v3.toNatClampNeg) &&& (63 : Int32)) = 28 then (j_La_law_634 Lx v3 g) else (if ((g.1 1001 v3.toNatClampNeg) &&& (63 : Int32)) = 29 then (j_La_law_641 Lx v3 g) else (if ((g.1 1001 v3.toNatClampNeg) &&& (63 : Int32)) = 30 then (j_La_law_658 Lx v3 g) else (if ((g.1 1001 v3.toNatClampNeg) &&& (63 : Int32)) = 31 then (j_La_law_675 Lx v3 g) else (if ((g.1 1001 v3.toNatClampNeg) &&& (63 : Int32)) = 32 then (j_La_law_713 Lx v3 g) else (if ((g.1 1001 v3.toNatClampNeg) &&& (63 : Int32)) = 33 then (j_La_law_720 Lx v3 g) else (if ((g.1 1001 v3.toNatClampNeg) &&& (63 : Int32)) = 34 then (j_La_law_748 Lx v3 g) else (if ((g.1 1001 v3.toNatClampNeg) &&& (63 : Int32)) = 35 then (j_La_law_776 Lx v3 g) else (if ((g.1 1001 v3.toNatClampNeg) &&& (63 : Int32)) = 36 then (j_La_law_804 Lx v3 g) else (if ((g.1 1001 v3.toNatClampNeg) &&& (63 : Int32)) = 37 then (j_La_law_832 Lx v3 g) else (if ((g.1 1001 v3.toNatClampNeg) &&& (63 : Int32)) = 38 then (j_La_law_839 Lx v3 g) else (if ((g.1 1001 v3.toNatClampNeg) &&& (63 : Int32)) = 39 then (j_La_law_856 Lx v3 g) else (if ((g.1 1001 v3.toNatClampNeg) &&& (63 : Int32)) = 40 then (j_La_law_883 Lx v3 g) else (if ((g.1 1001 v3.toNatClampNeg) &&& (63 : Int32)) = 41 then (j_La_law_900 Lx v3 g) else (if ((g.1 1001 v3.toNatClampNeg) &&& (63 : Int32)) = 42 then (j_La_law_907 Lx v3 g) else (if ((g.1 1001 v3.toNatClampNeg) &&& (63 : Int32)) = 43 then (j_La_law_935 Lx v3 g) else (if ((g.1 1001 v3.toNatClampNeg) &&& (63 : Int32)) = 44 then (j_La_law_942 Lx v3 g) else (if ((g.1 1001 v3.toNatClampNeg) &&& (63 : Int32)) = 45 then (j_La_law_949 Lx v3 g) else (if ((g.1 1001 v3.toNatClampNeg) &&& (63 : Int32)) = 46 then (j_La_law_956 Lx v3 g) else (if ((g.1 1001 v3.toNatClampNeg) &&& (63 : Int32)) = 47 then (j_La_law_993 Lx v3 g) else (if ((g.1 1001 v3.toNatClampNeg) &&& (63 : Int32)) = 48 then (j_La_law_1020 Lx v3 g) else (if ((g.1 1001 v3.toNatClampNeg) &&& (63 : Int32)) = 49 then (j_La_law_1037 Lx v3 g) else (if ((g.1 1001 v3.toNatClampNeg) &&& (63 : Int32)) = 50 then (j_La_law_1095 Lx v3 g) else (if ((g.1 1001 v3.toNatClampNeg) &&& (63 : Int32)) = 51 then (j_La_law_1112 Lx v3 g) else (if ((g.1 1001 v3.toNatClampNeg) &&& (63 : Int32)) = 52 then (j_La_law_1129 Lx v3 g) else (if ((g.1 1001 v3.toNatClampNeg) &&& (63 : Int32)) = 53 then (j_La_law_1146 Lx v3 g) else (if ((g.1 1001 v3.toNatClampNeg) &&& (63 : Int32)) = 54 then (j_La_law_1163 Lx v3 g) else (if ((g.1 1001 v3.toNatClampNeg) &&& (63 : Int32)) = 55 then (j_La_law_1190 Lx v3 g) else (if ((g.1 1001 v3.toNatClampNeg) &&& (63 : Int32)) = 56 then (j_La_law_1207 Lx v3 g) else (if ((g.1 1001 v3.toNatClampNeg) &&& (63 : Int32)) = 57 then (j_La_law_1224 Lx v3 g) else (if ((g.1 1001 v3.toNatClampNeg) &&& (63 : Int32)) = 58 then (j_La_law_1241 Lx v3 g) else some (.inl ((v3 + (6 : Int32)), g))))))))))))))))))))))))))))))))))))))))))))))))))))))))))))) else none))
set_option maxRecDepth 100000 in
theorem tb_La_law_10 {Lx : Nat}   (v3 : Int32) (g : M2) {b : (Int32 × M2) ⊕ (M2 ⊕ (Int32 × M2))} {o : Option Value × M2} (h : b_La_law_10 Lx v3 g = some b) (hb : Sum.elim (fun s => Ev Lx 303 cd_303 10 [some (.ref 1001), some (.ref 0), some (.ref 157), some (.int s.1)] [] s.2 o) (Sum.elim (fun e => Ev Lx 303 cd_303 1260 [] [] e o) (fun r => o = (some (.int r.1), r.2))) b) : Ev Lx 303 cd_303 10 [some (.ref 1001), some (.ref 0), some (.ref 157), some (.int v3)] [] g o := by
  unfold b_La_law_10 at h
  refine ev_rn (n := 5) (i2 := 15) (L2 := [some (.ref 1001), some (.ref 0), some (.ref 157), some (.int v3)]) (st2 := [.int ((Int32.ofNat Lx) - (6 : Int32)), .int v3]) (g2 := g) cdE_303 rfl ?_
  by_cases hc1 : ((Int32.ofNat Lx) - (6 : Int32)) < v3
  · rw [if_pos hc1] at h
    refine ev_ift cdE_303 rfl (cn_t hc1) ?_
    cases h
    exact ev_wk (L := []) hb trivial
  · rw [if_neg hc1] at h
    refine ev_iff rfl (cn_f hc1) ?_
    refine ev_rn (n := 2) (i2 := 18) (L2 := [some (.ref 1001), some (.ref 0), some (.ref 157), some (.int v3)]) (st2 := [.int v3, .ref 1001]) (g2 := g) cdE_303 rfl ?_
    by_cases hi2 : inb v3 Lx
    · rw [if_pos hi2] at h
      refine ev_iaload (v := .int (g.1 1001 v3.toNatClampNeg)) rfl rfl (by decide) hi2 rfl ?_
      refine ev_rn (n := 2) (i2 := 21) (L2 := [some (.ref 1001), some (.ref 0), some (.ref 157), some (.int v3)]) (st2 := [.int ((g.1 1001 v3.toNatClampNeg) &&& (63 : Int32))]) (g2 := g) cdE_303 rfl ?_
      by_cases hw3 : ((g.1 1001 v3.toNatClampNeg) &&& (63 : Int32)) = 0
      · rw [if_pos hw3] at h
        refine ev_swi (v := 0) (q := 2) cdE_303 rfl hw3 rfl rfl ?_
        exact ev_wk (L := [some (.ref 1001), some (.ref 0), some (.ref 157), some (.int v3)]) (tj_La_law_22  v3  g h hb) ⟨rfl, ⟨rfl, ⟨rfl, ⟨rfl, trivial⟩⟩⟩⟩
      · rw [if_neg hw3] at h
        by_cases hw4 : ((g.1 1001 v3.toNatClampNeg) &&& (63 : Int32)) = 1
        · rw [if_pos hw4] at h
          refine ev_swi (v := 1) (q := 4) cdE_303 rfl hw4 rfl rfl ?_
          exact ev_wk (L := [some (.ref 1001), some (.ref 0), some (.ref 157), some (.int v3)]) (tj_La_law_79  v3  g h hb) ⟨rfl, ⟨rfl, ⟨rfl, ⟨rfl, trivial⟩⟩⟩⟩
        · rw [if_neg hw4] at h
          by_cases hw5 : ((g.1 1001 v3.toNatClampNeg) &&& (63 : Int32)) = 2
          · rw [if_pos hw5] at h
            refine ev_swi (v := 2) (q := 6) cdE_303 rfl hw5 rfl rfl ?_
            exact ev_wk (L := [some (.ref 1001), some (.ref 0), some (.ref 157), some (.int v3)]) (tj_La_law_96  v3  g h hb) ⟨rfl, ⟨rfl, ⟨rfl, ⟨rfl, trivial⟩⟩⟩⟩
          · rw [if_neg hw5] at h
            by_cases hw6 : ((g.1 1001 v3.toNatClampNeg) &&& (63 : Int32)) = 3
            · rw [if_pos hw6] at h
              refine ev_swi (v := 3) (q := 8) cdE_303 rfl hw6 rfl rfl ?_
              exact ev_wk (L := [some (.ref 1001), some (.ref 0), some (.ref 157), some (.int v3)]) (tj_La_law_103  v3  g h hb) ⟨rfl, ⟨rfl, ⟨rfl, ⟨rfl, trivial⟩⟩⟩⟩
            · rw [if_neg hw6] at h
              by_cases hw7 : ((g.1 1001 v3.toNatClampNeg) &&& (63 : Int32)) = 4
              · rw [if_pos hw7] at h
                refine ev_swi (v := 4) (q := 10) cdE_303 rfl hw7 rfl rfl ?_
                exact ev_wk (L := [some (.ref 1001), some (.ref 0), some (.ref 157), some (.int v3)]) (tj_La_law_120  v3  g h hb) ⟨rfl, ⟨rfl, ⟨rfl, ⟨rfl, trivial⟩⟩⟩⟩
              · rw [if_neg hw7] at h
                by_cases hw8 : ((g.1 1001 v3.toNatClampNeg) &&& (63 : Int32)) = 5
                · rw [if_pos hw8] at h
                  refine ev_swi (v := 5) (q := 12) cdE_303 rfl hw8 rfl rfl ?_
                  exact ev_wk (L := [some (.ref 1001), some (.ref 0), some (.ref 157), some (.int v3)]) (tj_La_law_137  v3  g h hb) ⟨rfl, ⟨rfl, ⟨rfl, ⟨rfl, trivial⟩⟩⟩⟩
                · rw [if_neg hw8] at h
                  by_cases hw9 : ((g.1 1001 v3.toNatClampNeg) &&& (63 : Int32)) = 6
                  · rw [if_pos hw9] at h
                    refine ev_swi (v := 6) (q := 14) cdE_303 rfl hw9 rfl rfl ?_
                    exact ev_wk (L := [some (.ref 1001), some (.ref 0), some (.ref 157), some (.int v3)]) (tj_La_law_164  v3  g h hb) ⟨rfl, ⟨rfl, ⟨rfl, ⟨rfl, trivial⟩⟩⟩⟩
                  · rw [if_neg hw9] at h
                    by_cases hw10 : ((g.1 1001 v3.toNatClampNeg) &&& (63 : Int32)) = 7
                    · rw [if_pos hw10] at h
                      refine ev_swi (v := 7) (q := 16) cdE_303 rfl hw10 rfl rfl ?_
                      exact ev_wk (L := [some (.ref 1001), some (.ref 0), some (.ref 157), some (.int v3)]) (tj_La_law_191  v3  g h hb) ⟨rfl, ⟨rfl, ⟨rfl, ⟨rfl, trivial⟩⟩⟩⟩
                    · rw [if_neg hw10] at h
                      by_cases hw11 : ((g.1 1001 v3.toNatClampNeg) &&& (63 : Int32)) = 8
                      · rw [if_pos hw11] at h
                        refine ev_swi (v := 8) (q := 18) cdE_303 rfl hw11 rfl rfl ?_
                        exact ev_wk (L := [some (.ref 1001), some (.ref 0), some (.ref 157), some (.int v3)]) (tj_La_law_218  v3  g h hb) ⟨rfl, ⟨rfl, ⟨rfl, ⟨rfl, trivial⟩⟩⟩⟩
                      · rw [if_neg hw11] at h
                        by_cases hw12 : ((g.1 1001 v3.toNatClampNeg) &&& (63 : Int32)) = 9
                        · rw [if_pos hw12] at h
                          refine ev_swi (v := 9) (q := 20) cdE_303 rfl hw12 rfl rfl ?_
                          exact ev_wk (L := [some (.ref 1001), some (.ref 0), some (.ref 157), some (.int v3)]) (tj_La_law_225  v3  g h hb) ⟨rfl, ⟨rfl, ⟨rfl, ⟨rfl, trivial⟩⟩⟩⟩
                        · rw [if_neg hw12] at h
                          by_cases hw13 : ((g.1 1001 v3.toNatClampNeg) &&& (63 : Int32)) = 10
                          · rw [if_pos hw13] at h
                            refine ev_swi (v := 10) (q := 22) cdE_303 rfl hw13 rfl rfl ?_
                            exact ev_wk (L := [some (.ref 1001), some (.ref 0), some (.ref 157), some (.int v3)]) (tj_La_law_232  v3  g h hb) ⟨rfl, ⟨rfl, ⟨rfl, ⟨rfl, trivial⟩⟩⟩⟩
                          · rw [if_neg hw13] at h
                            by_cases hw14 : ((g.1 1001 v3.toNatClampNeg) &&& (63 : Int32)) = 11
                            · rw [if_pos hw14] at h
                              refine ev_swi (v := 11) (q := 24) cdE_303 rfl hw14 rfl rfl ?_
                              exact ev_wk (L := [some (.ref 1001), some (.ref 0), some (.ref 157), some (.int v3)]) (tj_La_law_260  v3  g h hb) ⟨rfl, ⟨rfl, ⟨rfl, ⟨rfl, trivial⟩⟩⟩⟩
                            · rw [if_neg hw14] at h
                              by_cases hw15 : ((g.1 1001 v3.toNatClampNeg) &&& (63 : Int32)) = 12
                              · rw [if_pos hw15] at h
                                refine ev_swi (v := 12) (q := 26) cdE_303 rfl hw15 rfl rfl ?_
                                exact ev_wk (L := [some (.ref 1001), some (.ref 0), some (.ref 157), some (.int v3)]) (tj_La_law_288  v3  g h hb) ⟨rfl, ⟨rfl, ⟨rfl, ⟨rfl, trivial⟩⟩⟩⟩
                              · rw [if_neg hw15] at h
                                by_cases hw16 : ((g.1 1001 v3.toNatClampNeg) &&& (63 : Int32)) = 13
                                · rw [if_pos hw16] at h
                                  refine ev_swi (v := 13) (q := 28) cdE_303 rfl hw16 rfl rfl ?_
                                  exact ev_wk (L := [some (.ref 1001), some (.ref 0), some (.ref 157), some (.int v3)]) (tj_La_law_316  v3  g h hb) ⟨rfl, ⟨rfl, ⟨rfl, ⟨rfl, trivial⟩⟩⟩⟩
                                · rw [if_neg hw16] at h
                                  by_cases hw17 : ((g.1 1001 v3.toNatClampNeg) &&& (63 : Int32)) = 14
                                  · rw [if_pos hw17] at h
                                    refine ev_swi (v := 14) (q := 30) cdE_303 rfl hw17 rfl rfl ?_
                                    exact ev_wk (L := [some (.ref 1001), some (.ref 0), some (.ref 157), some (.int v3)]) (tj_La_law_334  v3  g h hb) ⟨rfl, ⟨rfl, ⟨rfl, ⟨rfl, trivial⟩⟩⟩⟩
                                  · rw [if_neg hw17] at h
                                    by_cases hw18 : ((g.1 1001 v3.toNatClampNeg) &&& (63 : Int32)) = 15
                                    · rw [if_pos hw18] at h
                                      refine ev_swi (v := 15) (q := 32) cdE_303 rfl hw18 rfl rfl ?_
                                      exact ev_wk (L := [some (.ref 1001), some (.ref 0), some (.ref 157), some (.int v3)]) (tj_La_law_361  v3  g h hb) ⟨rfl, ⟨rfl, ⟨rfl, ⟨rfl, trivial⟩⟩⟩⟩
                                    · rw [if_neg hw18] at h
                                      by_cases hw19 : ((g.1 1001 v3.toNatClampNeg) &&& (63 : Int32)) = 16
                                      · rw [if_pos hw19] at h
                                        refine ev_swi (v := 16) (q := 34) cdE_303 rfl hw19 rfl rfl ?_
                                        exact ev_wk (L := [some (.ref 1001), some (.ref 0), some (.ref 157), some (.int v3)]) (tj_La_law_378  v3  g h hb) ⟨rfl, ⟨rfl, ⟨rfl, ⟨rfl, trivial⟩⟩⟩⟩
                                      · rw [if_neg hw19] at h
                                        by_cases hw20 : ((g.1 1001 v3.toNatClampNeg) &&& (63 : Int32)) = 17
                                        · rw [if_pos hw20] at h
                                          refine ev_swi (v := 17) (q := 36) cdE_303 rfl hw20 rfl rfl ?_
                                          exact ev_wk (L := [some (.ref 1001), some (.ref 0), some (.ref 157), some (.int v3)]) (tj_La_law_415  v3  g h hb) ⟨rfl, ⟨rfl, ⟨rfl, ⟨rfl, trivial⟩⟩⟩⟩
                                        · rw [if_neg hw20] at h
                                          by_cases hw21 : ((g.1 1001 v3.toNatClampNeg) &&& (63 : Int32)) = 18
                                          · rw [if_pos hw21] at h
                                            refine ev_swi (v := 18) (q := 38) cdE_303 rfl hw21 rfl rfl ?_
                                            exact ev_wk (L := [some (.ref 1001), some (.ref 0), some (.ref 157), some (.int v3)]) (tj_La_law_442  v3  g h hb) ⟨rfl, ⟨rfl, ⟨rfl, ⟨rfl, trivial⟩⟩⟩⟩
                                          · rw [if_neg hw21] at h
                                            by_cases hw22 : ((g.1 1001 v3.toNatClampNeg) &&& (63 : Int32)) = 19
                                            · rw [if_pos hw22] at h
                                              refine ev_swi (v := 19) (q := 40) cdE_303 rfl hw22 rfl rfl ?_
                                              exact ev_wk (L := [some (.ref 1001), some (.ref 0), some (.ref 157), some (.int v3)]) (tj_La_law_470  v3  g h hb) ⟨rfl, ⟨rfl, ⟨rfl, ⟨rfl, trivial⟩⟩⟩⟩
                                            · rw [if_neg hw22] at h
                                              by_cases hw23 : ((g.1 1001 v3.toNatClampNeg) &&& (63 : Int32)) = 20
                                              · rw [if_pos hw23] at h
                                                refine ev_swi (v := 20) (q := 42) cdE_303 rfl hw23 rfl rfl ?_
                                                exact ev_wk (L := [some (.ref 1001), some (.ref 0), some (.ref 157), some (.int v3)]) (tj_La_law_488  v3  g h hb) ⟨rfl, ⟨rfl, ⟨rfl, ⟨rfl, trivial⟩⟩⟩⟩
                                              · rw [if_neg hw23] at h
                                                by_cases hw24 : ((g.1 1001 v3.toNatClampNeg) &&& (63 : Int32)) = 21
                                                · rw [if_pos hw24] at h
                                                  refine ev_swi (v := 21) (q := 44) cdE_303 rfl hw24 rfl rfl ?_
                                                  exact ev_wk (L := [some (.ref 1001), some (.ref 0), some (.ref 157), some (.int v3)]) (tj_La_law_525  v3  g h hb) ⟨rfl, ⟨rfl, ⟨rfl, ⟨rfl, trivial⟩⟩⟩⟩
                                                · rw [if_neg hw24] at h
                                                  by_cases hw25 : ((g.1 1001 v3.toNatClampNeg) &&& (63 : Int32)) = 22
                                                  · rw [if_pos hw25] at h
                                                    refine ev_swi (v := 22) (q := 46) cdE_303 rfl hw25 rfl rfl ?_
                                                    exact ev_wk (L := [some (.ref 1001), some (.ref 0), some (.ref 157), some (.int v3)]) (tj_La_law_542  v3  g h hb) ⟨rfl, ⟨rfl, ⟨rfl, ⟨rfl, trivial⟩⟩⟩⟩
                                                  · rw [if_neg hw25] at h
                                                    by_cases hw26 : ((g.1 1001 v3.toNatClampNeg) &&& (63 : Int32)) = 23
                                                    · rw [if_pos hw26] at h
                                                      refine ev_swi (v := 23) (q := 48) cdE_303 rfl hw26 rfl rfl ?_
                                                      exact ev_wk (L := [some (.ref 1001), some (.ref 0), some (.ref 157), some (.int v3)]) (tj_La_law_549  v3  g h hb) ⟨rfl, ⟨rfl, ⟨rfl, ⟨rfl, trivial⟩⟩⟩⟩
                                                    · rw [if_neg hw26] at h
                                                      by_cases hw27 : ((g.1 1001 v3.toNatClampNeg) &&& (63 : Int32)) = 24
                                                      · rw [if_pos hw27] at h
                                                        refine ev_swi (v := 24) (q := 50) cdE_303 rfl hw27 rfl rfl ?_
                                                        exact ev_wk (L := [some (.ref 1001), some (.ref 0), some (.ref 157), some (.int v3)]) (tj_La_law_556  v3  g h hb) ⟨rfl, ⟨rfl, ⟨rfl, ⟨rfl, trivial⟩⟩⟩⟩
                                                      · rw [if_neg hw27] at h
                                                        by_cases hw28 : ((g.1 1001 v3.toNatClampNeg) &&& (63 : Int32)) = 25
                                                        · rw [if_pos hw28] at h
                                                          refine ev_swi (v := 25) (q := 52) cdE_303 rfl hw28 rfl rfl ?_
                                                          exact ev_wk (L := [some (.ref 1001), some (.ref 0), some (.ref 157), some (.int v3)]) (tj_La_law_583  v3  g h hb) ⟨rfl, ⟨rfl, ⟨rfl, ⟨rfl, trivial⟩⟩⟩⟩
                                                        · rw [if_neg hw28] at h
                                                          by_cases hw29 : ((g.1 1001 v3.toNatClampNeg) &&& (63 : Int32)) = 26
                                                          · rw [if_pos hw29] at h
                                                            refine ev_swi (v := 26) (q := 54) cdE_303 rfl hw29 rfl rfl ?_
                                                            exact ev_wk (L := [some (.ref 1001), some (.ref 0), some (.ref 157), some (.int v3)]) (tj_La_law_600  v3  g h hb) ⟨rfl, ⟨rfl, ⟨rfl, ⟨rfl, trivial⟩⟩⟩⟩
                                                          · rw [if_neg hw29] at h
                                                            by_cases hw30 : ((g.1 1001 v3.toNatClampNeg) &&& (63 : Int32)) = 27
                                                            · rw [if_pos hw30] at h
                                                              refine ev_swi (v := 27) (q := 56) cdE_303 rfl hw30 rfl rfl ?_
                                                              exact ev_wk (L := [some (.ref 1001), some (.ref 0), some (.ref 157), some (.int v3)]) (tj_La_law_607  v3  g h hb) ⟨rfl, ⟨rfl, ⟨rfl, ⟨rfl, trivial⟩⟩⟩⟩
                                                            · rw [if_neg hw30] at h
                                                              by_cases hw31 : ((g.1 1001 v3.toNatClampNeg) &&& (63 : Int32)) = 28
                                                              · rw [if_pos hw31] at h
                                                                refine ev_swi (v := 28) (q := 58) cdE_303 rfl hw31 rfl rfl ?_
                                                                exact ev_wk (L := [some (.ref 1001), some (.ref 0), some (.ref 157), some (.int v3)]) (tj_La_law_634  v3  g h hb) ⟨rfl, ⟨rfl, ⟨rfl, ⟨rfl, trivial⟩⟩⟩⟩
                                                              · rw [if_neg hw31] at h
                                                                by_cases hw32 : ((g.1 1001 v3.toNatClampNeg) &&& (63 : Int32)) = 29
                                                                · rw [if_pos hw32] at h
                                                                  refine ev_swi (v := 29) (q := 60) cdE_303 rfl hw32 rfl rfl ?_
                                                                  exact ev_wk (L := [some (.ref 1001), some (.ref 0), some (.ref 157), some (.int v3)]) (tj_La_law_641  v3  g h hb) ⟨rfl, ⟨rfl, ⟨rfl, ⟨rfl, trivial⟩⟩⟩⟩
                                                                · rw [if_neg hw32] at h
                                                                  by_cases hw33 : ((g.1 1001 v3.toNatClampNeg) &&& (63 : Int32)) = 30
                                                                  · rw [if_pos hw33] at h
                                                                    refine ev_swi (v := 30) (q := 62) cdE_303 rfl hw33 rfl rfl ?_
                                                                    exact ev_wk (L := [some (.ref 1001), some (.ref 0), some (.ref 157), some (.int v3)]) (tj_La_law_658  v3  g h hb) ⟨rfl, ⟨rfl, ⟨rfl, ⟨rfl, trivial⟩⟩⟩⟩
                                                                  · rw [if_neg hw33] at h
                                                                    by_cases hw34 : ((g.1 1001 v3.toNatClampNeg) &&& (63 : Int32)) = 31
                                                                    · rw [if_pos hw34] at h
                                                                      refine ev_swi (v := 31) (q := 64) cdE_303 rfl hw34 rfl rfl ?_
                                                                      exact ev_wk (L := [some (.ref 1001), some (.ref 0), some (.ref 157), some (.int v3)]) (tj_La_law_675  v3  g h hb) ⟨rfl, ⟨rfl, ⟨rfl, ⟨rfl, trivial⟩⟩⟩⟩
                                                                    · rw [if_neg hw34] at h
                                                                      by_cases hw35 : ((g.1 1001 v3.toNatClampNeg) &&& (63 : Int32)) = 32
                                                                      · rw [if_pos hw35] at h
                                                                        refine ev_swi (v := 32) (q := 66) cdE_303 rfl hw35 rfl rfl ?_
                                                                        exact ev_wk (L := [some (.ref 1001), some (.ref 0), some (.ref 157), some (.int v3)]) (tj_La_law_713  v3  g h hb) ⟨rfl, ⟨rfl, ⟨rfl, ⟨rfl, trivial⟩⟩⟩⟩
                                                                      · rw [if_neg hw35] at h
                                                                        by_cases hw36 : ((g.1 1001 v3.toNatClampNeg) &&& (63 : Int32)) = 33
                                                                        · rw [if_pos hw36] at h
                                                                          refine ev_swi (v := 33) (q := 68) cdE_303 rfl hw36 rfl rfl ?_
                                                                          exact ev_wk (L := [some (.ref 1001), some (.ref 0), some (.ref 157), some (.int v3)]) (tj_La_law_720  v3  g h hb) ⟨rfl, ⟨rfl, ⟨rfl, ⟨rfl, trivial⟩⟩⟩⟩
                                                                        · rw [if_neg hw36] at h
                                                                          by_cases hw37 : ((g.1 1001 v3.toNatClampNeg) &&& (63 : Int32)) = 34
                                                                          · rw [if_pos hw37] at h
                                                                            refine ev_swi (v := 34) (q := 70) cdE_303 rfl hw37 rfl rfl ?_
                                                                            exact ev_wk (L := [some (.ref 1001), some (.ref 0), some (.ref 157), some (.int v3)]) (tj_La_law_748  v3  g h hb) ⟨rfl, ⟨rfl, ⟨rfl, ⟨rfl, trivial⟩⟩⟩⟩
                                                                          · rw [if_neg hw37] at h
                                                                            by_cases hw38 : ((g.1 1001 v3.toNatClampNeg) &&& (63 : Int32)) = 35
                                                                            · rw [if_pos hw38] at h
                                                                              refine ev_swi (v := 35) (q := 72) cdE_303 rfl hw38 rfl rfl ?_
                                                                              exact ev_wk (L := [some (.ref 1001), some (.ref 0), some (.ref 157), some (.int v3)]) (tj_La_law_776  v3  g h hb) ⟨rfl, ⟨rfl, ⟨rfl, ⟨rfl, trivial⟩⟩⟩⟩
                                                                            · rw [if_neg hw38] at h
                                                                              by_cases hw39 : ((g.1 1001 v3.toNatClampNeg) &&& (63 : Int32)) = 36
                                                                              · rw [if_pos hw39] at h
                                                                                refine ev_swi (v := 36) (q := 74) cdE_303 rfl hw39 rfl rfl ?_
                                                                                exact ev_wk (L := [some (.ref 1001), some (.ref 0), some (.ref 157), some (.int v3)]) (tj_La_law_804  v3  g h hb) ⟨rfl, ⟨rfl, ⟨rfl, ⟨rfl, trivial⟩⟩⟩⟩
                                                                              · rw [if_neg hw39] at h
                                                                                by_cases hw40 : ((g.1 1001 v3.toNatClampNeg) &&& (63 : Int32)) = 37
                                                                                · rw [if_pos hw40] at h
                                                                                  refine ev_swi (v := 37) (q := 76) cdE_303 rfl hw40 rfl rfl ?_
                                                                                  exact ev_wk (L := [some (.ref 1001), some (.ref 0), some (.ref 157), some (.int v3)]) (tj_La_law_832  v3  g h hb) ⟨rfl, ⟨rfl, ⟨rfl, ⟨rfl, trivial⟩⟩⟩⟩
                                                                                · rw [if_neg hw40] at h
                                                                                  by_cases hw41 : ((g.1 1001 v3.toNatClampNeg) &&& (63 : Int32)) = 38
                                                                                  · rw [if_pos hw41] at h
                                                                                    refine ev_swi (v := 38) (q := 78) cdE_303 rfl hw41 rfl rfl ?_
                                                                                    exact ev_wk (L := [some (.ref 1001), some (.ref 0), some (.ref 157), some (.int v3)]) (tj_La_law_839  v3  g h hb) ⟨rfl, ⟨rfl, ⟨rfl, ⟨rfl, trivial⟩⟩⟩⟩
                                                                                  · rw [if_neg hw41] at h
                                                                                    by_cases hw42 : ((g.1 1001 v3.toNatClampNeg) &&& (63 : Int32)) = 39
                                                                                    · rw [if_pos hw42] at h
                                                                                      refine ev_swi (v := 39) (q := 80) cdE_303 rfl hw42 rfl rfl ?_
                                                                                      exact ev_wk (L := [some (.ref 1001), some (.ref 0), some (.ref 157), some (.int v3)]) (tj_La_law_856  v3  g h hb) ⟨rfl, ⟨rfl, ⟨rfl, ⟨rfl, trivial⟩⟩⟩⟩
                                                                                    · rw [if_neg hw42] at h
                                                                                      by_cases hw43 : ((g.1 1001 v3.toNatClampNeg) &&& (63 : Int32)) = 40
                                                                                      · rw [if_pos hw43] at h
                                                                                        refine ev_swi (v := 40) (q := 82) cdE_303 rfl hw43 rfl rfl ?_
                                                                                        exact ev_wk (L := [some (.ref 1001), some (.ref 0), some (.ref 157), some (.int v3)]) (tj_La_law_883  v3  g h hb) ⟨rfl, ⟨rfl, ⟨rfl, ⟨rfl, trivial⟩⟩⟩⟩
                                                                                      · rw [if_neg hw43] at h
                                                                                        by_cases hw44 : ((g.1 1001 v3.toNatClampNeg) &&& (63 : Int32)) = 41
                                                                                        · rw [if_pos hw44] at h
                                                                                          refine ev_swi (v := 41) (q := 84) cdE_303 rfl hw44 rfl rfl ?_
                                                                                          exact ev_wk (L := [some (.ref 1001), some (.ref 0), some (.ref 157), some (.int v3)]) (tj_La_law_900  v3  g h hb) ⟨rfl, ⟨rfl, ⟨rfl, ⟨rfl, trivial⟩⟩⟩⟩
                                                                                        · rw [if_neg hw44] at h
                                                                                          by_cases hw45 : ((g.1 1001 v3.toNatClampNeg) &&& (63 : Int32)) = 42
                                                                                          · rw [if_pos hw45] at h
                                                                                            refine ev_swi (v := 42) (q := 86) cdE_303 rfl hw45 rfl rfl ?_
                                                                                            exact ev_wk (L := [some (.ref 1001), some (.ref 0), some (.ref 157), some (.int v3)]) (tj_La_law_907  v3  g h hb) ⟨rfl, ⟨rfl, ⟨rfl, ⟨rfl, trivial⟩⟩⟩⟩
                                                                                          · rw [if_neg hw45] at h
                                                                                            by_cases hw46 : ((g.1 1001 v3.toNatClampNeg) &&& (63 : Int32)) = 43
                                                                                            · rw [if_pos hw46] at h
                                                                                              refine ev_swi (v := 43) (q := 88) cdE_303 rfl hw46 rfl rfl ?_
                                                                                              exact ev_wk (L := [some (.ref 1001), some (.ref 0), some (.ref 157), some (.int v3)]) (tj_La_law_935  v3  g h hb) ⟨rfl, ⟨rfl, ⟨rfl, ⟨rfl, trivial⟩⟩⟩⟩
                                                                                            · rw [if_neg hw46] at h
                                                                                              by_cases hw47 : ((g.1 1001 v3.toNatClampNeg) &&& (63 : Int32)) = 44
                                                                                              · rw [if_pos hw47] at h
                                                                                                refine ev_swi (v := 44) (q := 90) cdE_303 rfl hw47 rfl rfl ?_
                                                                                                exact ev_wk (L := [some (.ref 1001), some (.ref 0), some (.ref 157), some (.int v3)]) (tj_La_law_942  v3  g h hb) ⟨rfl, ⟨rfl, ⟨rfl, ⟨rfl, trivial⟩⟩⟩⟩
                                                                                              · rw [if_neg hw47] at h
                                                                                                by_cases hw48 : ((g.1 1001 v3.toNatClampNeg) &&& (63 : Int32)) = 45
                                                                                                · rw [if_pos hw48] at h
                                                                                                  refine ev_swi (v := 45) (q := 92) cdE_303 rfl hw48 rfl rfl ?_
                                                                                                  exact ev_wk (L := [some (.ref 1001), some (.ref 0), some (.ref 157), some (.int v3)]) (tj_La_law_949  v3  g h hb) ⟨rfl, ⟨rfl, ⟨rfl, ⟨rfl, trivial⟩⟩⟩⟩
                                                                                                · rw [if_neg hw48] at h
                                                                                                  by_cases hw49 : ((g.1 1001 v3.toNatClampNeg) &&& (63 : Int32)) = 46
                                                                                                  · rw [if_pos hw49] at h
                                                                                                    refine ev_swi (v := 46) (q := 94) cdE_303 rfl hw49 rfl rfl ?_
                                                                                                    exact ev_wk (L := [some (.ref 1001), some (.ref 0), some (.ref 157), some (.int v3)]) (tj_La_law_956  v3  g h hb) ⟨rfl, ⟨rfl, ⟨rfl, ⟨rfl, trivial⟩⟩⟩⟩
                                                                                                  · rw [if_neg hw49] at h
                                                                                                    by_cases hw50 : ((g.1 1001 v3.toNatClampNeg) &&& (63 : Int32)) = 47
                                                                                                    · rw [if_pos hw50] at h
                                                                                                      refine ev_swi (v := 47) (q := 96) cdE_303 rfl hw50 rfl rfl ?_
                                                                                                      exact ev_wk (L := [some (.ref 1001), some (.ref 0), some (.ref 157), some (.int v3)]) (tj_La_law_993  v3  g h hb) ⟨rfl, ⟨rfl, ⟨rfl, ⟨rfl, trivial⟩⟩⟩⟩
                                                                                                    · rw [if_neg hw50] at h
                                                                                                      by_cases hw51 : ((g.1 1001 v3.toNatClampNeg) &&& (63 : Int32)) = 48
                                                                                                      · rw [if_pos hw51] at h
                                                                                                        refine ev_swi (v := 48) (q := 98) cdE_303 rfl hw51 rfl rfl ?_
                                                                                                        exact ev_wk (L := [some (.ref 1001), some (.ref 0), some (.ref 157), some (.int v3)]) (tj_La_law_1020  v3  g h hb) ⟨rfl, ⟨rfl, ⟨rfl, ⟨rfl, trivial⟩⟩⟩⟩
                                                                                                      · rw [if_neg hw51] at h
                                                                                                        by_cases hw52 : ((g.1 1001 v3.toNatClampNeg) &&& (63 : Int32)) = 49
                                                                                                        · rw [if_pos hw52] at h
                                                                                                          refine ev_swi (v := 49) (q := 100) cdE_303 rfl hw52 rfl rfl ?_
                                                                                                          exact ev_wk (L := [some (.ref 1001), some (.ref 0), some (.ref 157), some (.int v3)]) (tj_La_law_1037  v3  g h hb) ⟨rfl, ⟨rfl, ⟨rfl, ⟨rfl, trivial⟩⟩⟩⟩
                                                                                                        · rw [if_neg hw52] at h
                                                                                                          by_cases hw53 : ((g.1 1001 v3.toNatClampNeg) &&& (63 : Int32)) = 50
                                                                                                          · rw [if_pos hw53] at h
                                                                                                            refine ev_swi (v := 50) (q := 102) cdE_303 rfl hw53 rfl rfl ?_
                                                                                                            exact ev_wk (L := [some (.ref 1001), some (.ref 0), some (.ref 157), some (.int v3)]) (tj_La_law_1095  v3  g h hb) ⟨rfl, ⟨rfl, ⟨rfl, ⟨rfl, trivial⟩⟩⟩⟩
                                                                                                          · rw [if_neg hw53] at h
                                                                                                            by_cases hw54 : ((g.1 1001 v3.toNatClampNeg) &&& (63 : Int32)) = 51
                                                                                                            · rw [if_pos hw54] at h
                                                                                                              refine ev_swi (v := 51) (q := 104) cdE_303 rfl hw54 rfl rfl ?_
                                                                                                              exact ev_wk (L := [some (.ref 1001), some (.ref 0), some (.ref 157), some (.int v3)]) (tj_La_law_1112  v3  g h hb) ⟨rfl, ⟨rfl, ⟨rfl, ⟨rfl, trivial⟩⟩⟩⟩
                                                                                                            · rw [if_neg hw54] at h
                                                                                                              by_cases hw55 : ((g.1 1001 v3.toNatClampNeg) &&& (63 : Int32)) = 52
                                                                                                              · rw [if_pos hw55] at h
                                                                                                                refine ev_swi (v := 52) (q := 106) cdE_303 rfl hw55 rfl rfl ?_
                                                                                                                exact ev_wk (L := [some (.ref 1001), some (.ref 0), some (.ref 157), some (.int v3)]) (tj_La_law_1129  v3  g h hb) ⟨rfl, ⟨rfl, ⟨rfl, ⟨rfl, trivial⟩⟩⟩⟩
                                                                                                              · rw [if_neg hw55] at h
                                                                                                                by_cases hw56 : ((g.1 1001 v3.toNatClampNeg) &&& (63 : Int32)) = 53
                                                                                                                · rw [if_pos hw56] at h
                                                                                                                  refine ev_swi (v := 53) (q := 108) cdE_303 rfl hw56 rfl rfl ?_
                                                                                                                  exact ev_wk (L := [some (.ref 1001), some (.ref 0), some (.ref 157), some (.int v3)]) (tj_La_law_1146  v3  g h hb) ⟨rfl, ⟨rfl, ⟨rfl, ⟨rfl, trivial⟩⟩⟩⟩
                                                                                                                · rw [if_neg hw56] at h
                                                                                                                  by_cases hw57 : ((g.1 1001 v3.toNatClampNeg) &&& (63 : Int32)) = 54
                                                                                                                  · rw [if_pos hw57] at h
                                                                                                                    refine ev_swi (v := 54) (q := 110) cdE_303 rfl hw57 rfl rfl ?_
                                                                                                                    exact ev_wk (L := [some (.ref 1001), some (.ref 0), some (.ref 157), some (.int v3)]) (tj_La_law_1163  v3  g h hb) ⟨rfl, ⟨rfl, ⟨rfl, ⟨rfl, trivial⟩⟩⟩⟩
                                                                                                                  · rw [if_neg hw57] at h
                                                                                                                    by_cases hw58 : ((g.1 1001 v3.toNatClampNeg) &&& (63 : Int32)) = 55
                                                                                                                    · rw [if_pos hw58] at h
                                                                                                                      refine ev_swi (v := 55) (q := 112) cdE_303 rfl hw58 rfl rfl ?_
                                                                                                                      exact ev_wk (L := [some (.ref 1001), some (.ref 0), some (.ref 157), some (.int v3)]) (tj_La_law_1190  v3  g h hb) ⟨rfl, ⟨rfl, ⟨rfl, ⟨rfl, trivial⟩⟩⟩⟩
                                                                                                                    · rw [if_neg hw58] at h
                                                                                                                      by_cases hw59 : ((g.1 1001 v3.toNatClampNeg) &&& (63 : Int32)) = 56
                                                                                                                      · rw [if_pos hw59] at h
                                                                                                                        refine ev_swi (v := 56) (q := 114) cdE_303 rfl hw59 rfl rfl ?_
                                                                                                                        exact ev_wk (L := [some (.ref 1001), some (.ref 0), some (.ref 157), some (.int v3)]) (tj_La_law_1207  v3  g h hb) ⟨rfl, ⟨rfl, ⟨rfl, ⟨rfl, trivial⟩⟩⟩⟩
                                                                                                                      · rw [if_neg hw59] at h
                                                                                                                        by_cases hw60 : ((g.1 1001 v3.toNatClampNeg) &&& (63 : Int32)) = 57
                                                                                                                        · rw [if_pos hw60] at h
                                                                                                                          refine ev_swi (v := 57) (q := 116) cdE_303 rfl hw60 rfl rfl ?_
                                                                                                                          exact ev_wk (L := [some (.ref 1001), some (.ref 0), some (.ref 157), some (.int v3)]) (tj_La_law_1224  v3  g h hb) ⟨rfl, ⟨rfl, ⟨rfl, ⟨rfl, trivial⟩⟩⟩⟩
                                                                                                                        · rw [if_neg hw60] at h
                                                                                                                          by_cases hw61 : ((g.1 1001 v3.toNatClampNeg) &&& (63 : Int32)) = 58
                                                                                                                          · rw [if_pos hw61] at h
                                                                                                                            refine ev_swi (v := 58) (q := 118) cdE_303 rfl hw61 rfl rfl ?_
                                                                                                                            exact ev_wk (L := [some (.ref 1001), some (.ref 0), some (.ref 157), some (.int v3)]) (tj_La_law_1241  v3  g h hb) ⟨rfl, ⟨rfl, ⟨rfl, ⟨rfl, trivial⟩⟩⟩⟩
                                                                                                                          · rw [if_neg hw61] at h
                                                                                                                            have nhw3 : ((g.1 1001 v3.toNatClampNeg) &&& (63 : Int32)).toInt ≠ 0 := fun z => hw3 (Int32.toInt_inj.mp (z.trans (by decide)))
                                                                                                                            have nhw4 : ((g.1 1001 v3.toNatClampNeg) &&& (63 : Int32)).toInt ≠ 1 := fun z => hw4 (Int32.toInt_inj.mp (z.trans (by decide)))
                                                                                                                            have nhw5 : ((g.1 1001 v3.toNatClampNeg) &&& (63 : Int32)).toInt ≠ 2 := fun z => hw5 (Int32.toInt_inj.mp (z.trans (by decide)))
                                                                                                                            have nhw6 : ((g.1 1001 v3.toNatClampNeg) &&& (63 : Int32)).toInt ≠ 3 := fun z => hw6 (Int32.toInt_inj.mp (z.trans (by decide)))
                                                                                                                            have nhw7 : ((g.1 1001 v3.toNatClampNeg) &&& (63 : Int32)).toInt ≠ 4 := fun z => hw7 (Int32.toInt_inj.mp (z.trans (by decide)))
                                                                                                                            have nhw8 : ((g.1 1001 v3.toNatClampNeg) &&& (63 : Int32)).toInt ≠ 5 := fun z => hw8 (Int32.toInt_inj.mp (z.trans (by decide)))
                                                                                                                            have nhw9 : ((g.1 1001 v3.toNatClampNeg) &&& (63 : Int32)).toInt ≠ 6 := fun z => hw9 (Int32.toInt_inj.mp (z.trans (by decide)))
                                                                                                                            have nhw10 : ((g.1 1001 v3.toNatClampNeg) &&& (63 : Int32)).toInt ≠ 7 := fun z => hw10 (Int32.toInt_inj.mp (z.trans (by decide)))
                                                                                                                            have nhw11 : ((g.1 1001 v3.toNatClampNeg) &&& (63 : Int32)).toInt ≠ 8 := fun z => hw11 (Int32.toInt_inj.mp (z.trans (by decide)))
                                                                                                                            have nhw12 : ((g.1 1001 v3.toNatClampNeg) &&& (63 : Int32)).toInt ≠ 9 := fun z => hw12 (Int32.toInt_inj.mp (z.trans (by decide)))
                                                                                                                            have nhw13 : ((g.1 1001 v3.toNatClampNeg) &&& (63 : Int32)).toInt ≠ 10 := fun z => hw13 (Int32.toInt_inj.mp (z.trans (by decide)))
                                                                                                                            have nhw14 : ((g.1 1001 v3.toNatClampNeg) &&& (63 : Int32)).toInt ≠ 11 := fun z => hw14 (Int32.toInt_inj.mp (z.trans (by decide)))
                                                                                                                            have nhw15 : ((g.1 1001 v3.toNatClampNeg) &&& (63 : Int32)).toInt ≠ 12 := fun z => hw15 (Int32.toInt_inj.mp (z.trans (by decide)))
                                                                                                                            have nhw16 : ((g.1 1001 v3.toNatClampNeg) &&& (63 : Int32)).toInt ≠ 13 := fun z => hw16 (Int32.toInt_inj.mp (z.trans (by decide)))
                                                                                                                            have nhw17 : ((g.1 1001 v3.toNatClampNeg) &&& (63 : Int32)).toInt ≠ 14 := fun z => hw17 (Int32.toInt_inj.mp (z.trans (by decide)))
                                                                                                                            have nhw18 : ((g.1 1001 v3.toNatClampNeg) &&& (63 : Int32)).toInt ≠ 15 := fun z => hw18 (Int32.toInt_inj.mp (z.trans (by decide)))
                                                                                                                            have nhw19 : ((g.1 1001 v3.toNatClampNeg) &&& (63 : Int32)).toInt ≠ 16 := fun z => hw19 (Int32.toInt_inj.mp (z.trans (by decide)))
                                                                                                                            have nhw20 : ((g.1 1001 v3.toNatClampNeg) &&& (63 : Int32)).toInt ≠ 17 := fun z => hw20 (Int32.toInt_inj.mp (z.trans (by decide)))
                                                                                                                            have nhw21 : ((g.1 1001 v3.toNatClampNeg) &&& (63 : Int32)).toInt ≠ 18 := fun z => hw21 (Int32.toInt_inj.mp (z.trans (by decide)))
                                                                                                                            have nhw22 : ((g.1 1001 v3.toNatClampNeg) &&& (63 : Int32)).toInt ≠ 19 := fun z => hw22 (Int32.toInt_inj.mp (z.trans (by decide)))
                                                                                                                            have nhw23 : ((g.1 1001 v3.toNatClampNeg) &&& (63 : Int32)).toInt ≠ 20 := fun z => hw23 (Int32.toInt_inj.mp (z.trans (by decide)))
                                                                                                                            have nhw24 : ((g.1 1001 v3.toNatClampNeg) &&& (63 : Int32)).toInt ≠ 21 := fun z => hw24 (Int32.toInt_inj.mp (z.trans (by decide)))
                                                                                                                            have nhw25 : ((g.1 1001 v3.toNatClampNeg) &&& (63 : Int32)).toInt ≠ 22 := fun z => hw25 (Int32.toInt_inj.mp (z.trans (by decide)))
                                                                                                                            have nhw26 : ((g.1 1001 v3.toNatClampNeg) &&& (63 : Int32)).toInt ≠ 23 := fun z => hw26 (Int32.toInt_inj.mp (z.trans (by decide)))
                                                                                                                            have nhw27 : ((g.1 1001 v3.toNatClampNeg) &&& (63 : Int32)).toInt ≠ 24 := fun z => hw27 (Int32.toInt_inj.mp (z.trans (by decide)))
                                                                                                                            have nhw28 : ((g.1 1001 v3.toNatClampNeg) &&& (63 : Int32)).toInt ≠ 25 := fun z => hw28 (Int32.toInt_inj.mp (z.trans (by decide)))
                                                                                                                            have nhw29 : ((g.1 1001 v3.toNatClampNeg) &&& (63 : Int32)).toInt ≠ 26 := fun z => hw29 (Int32.toInt_inj.mp (z.trans (by decide)))
                                                                                                                            have nhw30 : ((g.1 1001 v3.toNatClampNeg) &&& (63 : Int32)).toInt ≠ 27 := fun z => hw30 (Int32.toInt_inj.mp (z.trans (by decide)))
                                                                                                                            have nhw31 : ((g.1 1001 v3.toNatClampNeg) &&& (63 : Int32)).toInt ≠ 28 := fun z => hw31 (Int32.toInt_inj.mp (z.trans (by decide)))
                                                                                                                            have nhw32 : ((g.1 1001 v3.toNatClampNeg) &&& (63 : Int32)).toInt ≠ 29 := fun z => hw32 (Int32.toInt_inj.mp (z.trans (by decide)))
                                                                                                                            have nhw33 : ((g.1 1001 v3.toNatClampNeg) &&& (63 : Int32)).toInt ≠ 30 := fun z => hw33 (Int32.toInt_inj.mp (z.trans (by decide)))
                                                                                                                            have nhw34 : ((g.1 1001 v3.toNatClampNeg) &&& (63 : Int32)).toInt ≠ 31 := fun z => hw34 (Int32.toInt_inj.mp (z.trans (by decide)))
                                                                                                                            have nhw35 : ((g.1 1001 v3.toNatClampNeg) &&& (63 : Int32)).toInt ≠ 32 := fun z => hw35 (Int32.toInt_inj.mp (z.trans (by decide)))
                                                                                                                            have nhw36 : ((g.1 1001 v3.toNatClampNeg) &&& (63 : Int32)).toInt ≠ 33 := fun z => hw36 (Int32.toInt_inj.mp (z.trans (by decide)))
                                                                                                                            have nhw37 : ((g.1 1001 v3.toNatClampNeg) &&& (63 : Int32)).toInt ≠ 34 := fun z => hw37 (Int32.toInt_inj.mp (z.trans (by decide)))
                                                                                                                            have nhw38 : ((g.1 1001 v3.toNatClampNeg) &&& (63 : Int32)).toInt ≠ 35 := fun z => hw38 (Int32.toInt_inj.mp (z.trans (by decide)))
                                                                                                                            have nhw39 : ((g.1 1001 v3.toNatClampNeg) &&& (63 : Int32)).toInt ≠ 36 := fun z => hw39 (Int32.toInt_inj.mp (z.trans (by decide)))
                                                                                                                            have nhw40 : ((g.1 1001 v3.toNatClampNeg) &&& (63 : Int32)).toInt ≠ 37 := fun z => hw40 (Int32.toInt_inj.mp (z.trans (by decide)))
                                                                                                                            have nhw41 : ((g.1 1001 v3.toNatClampNeg) &&& (63 : Int32)).toInt ≠ 38 := fun z => hw41 (Int32.toInt_inj.mp (z.trans (by decide)))
                                                                                                                            have nhw42 : ((g.1 1001 v3.toNatClampNeg) &&& (63 : Int32)).toInt ≠ 39 := fun z => hw42 (Int32.toInt_inj.mp (z.trans (by decide)))
                                                                                                                            have nhw43 : ((g.1 1001 v3.toNatClampNeg) &&& (63 : Int32)).toInt ≠ 40 := fun z => hw43 (Int32.toInt_inj.mp (z.trans (by decide)))
                                                                                                                            have nhw44 : ((g.1 1001 v3.toNatClampNeg) &&& (63 : Int32)).toInt ≠ 41 := fun z => hw44 (Int32.toInt_inj.mp (z.trans (by decide)))
                                                                                                                            have nhw45 : ((g.1 1001 v3.toNatClampNeg) &&& (63 : Int32)).toInt ≠ 42 := fun z => hw45 (Int32.toInt_inj.mp (z.trans (by decide)))
                                                                                                                            have nhw46 : ((g.1 1001 v3.toNatClampNeg) &&& (63 : Int32)).toInt ≠ 43 := fun z => hw46 (Int32.toInt_inj.mp (z.trans (by decide)))
                                                                                                                            have nhw47 : ((g.1 1001 v3.toNatClampNeg) &&& (63 : Int32)).toInt ≠ 44 := fun z => hw47 (Int32.toInt_inj.mp (z.trans (by decide)))
                                                                                                                            have nhw48 : ((g.1 1001 v3.toNatClampNeg) &&& (63 : Int32)).toInt ≠ 45 := fun z => hw48 (Int32.toInt_inj.mp (z.trans (by decide)))
                                                                                                                            have nhw49 : ((g.1 1001 v3.toNatClampNeg) &&& (63 : Int32)).toInt ≠ 46 := fun z => hw49 (Int32.toInt_inj.mp (z.trans (by decide)))
                                                                                                                            have nhw50 : ((g.1 1001 v3.toNatClampNeg) &&& (63 : Int32)).toInt ≠ 47 := fun z => hw50 (Int32.toInt_inj.mp (z.trans (by decide)))
                                                                                                                            have nhw51 : ((g.1 1001 v3.toNatClampNeg) &&& (63 : Int32)).toInt ≠ 48 := fun z => hw51 (Int32.toInt_inj.mp (z.trans (by decide)))
                                                                                                                            have nhw52 : ((g.1 1001 v3.toNatClampNeg) &&& (63 : Int32)).toInt ≠ 49 := fun z => hw52 (Int32.toInt_inj.mp (z.trans (by decide)))
                                                                                                                            have nhw53 : ((g.1 1001 v3.toNatClampNeg) &&& (63 : Int32)).toInt ≠ 50 := fun z => hw53 (Int32.toInt_inj.mp (z.trans (by decide)))
                                                                                                                            have nhw54 : ((g.1 1001 v3.toNatClampNeg) &&& (63 : Int32)).toInt ≠ 51 := fun z => hw54 (Int32.toInt_inj.mp (z.trans (by decide)))
                                                                                                                            have nhw55 : ((g.1 1001 v3.toNatClampNeg) &&& (63 : Int32)).toInt ≠ 52 := fun z => hw55 (Int32.toInt_inj.mp (z.trans (by decide)))
                                                                                                                            have nhw56 : ((g.1 1001 v3.toNatClampNeg) &&& (63 : Int32)).toInt ≠ 53 := fun z => hw56 (Int32.toInt_inj.mp (z.trans (by decide)))
                                                                                                                            have nhw57 : ((g.1 1001 v3.toNatClampNeg) &&& (63 : Int32)).toInt ≠ 54 := fun z => hw57 (Int32.toInt_inj.mp (z.trans (by decide)))
                                                                                                                            have nhw58 : ((g.1 1001 v3.toNatClampNeg) &&& (63 : Int32)).toInt ≠ 55 := fun z => hw58 (Int32.toInt_inj.mp (z.trans (by decide)))
                                                                                                                            have nhw59 : ((g.1 1001 v3.toNatClampNeg) &&& (63 : Int32)).toInt ≠ 56 := fun z => hw59 (Int32.toInt_inj.mp (z.trans (by decide)))
                                                                                                                            have nhw60 : ((g.1 1001 v3.toNatClampNeg) &&& (63 : Int32)).toInt ≠ 57 := fun z => hw60 (Int32.toInt_inj.mp (z.trans (by decide)))
                                                                                                                            have nhw61 : ((g.1 1001 v3.toNatClampNeg) &&& (63 : Int32)).toInt ≠ 58 := fun z => hw61 (Int32.toInt_inj.mp (z.trans (by decide)))
                                                                                                                            refine ev_swo cdE_303 rfl (by omega) ?_
                                                                                                                            refine ev_rn (n := 2) (i2 := 10) (L2 := [some (.ref 1001), some (.ref 0), some (.ref 157), some (.int (v3 + (6 : Int32)))]) (st2 := []) (g2 := g) cdE_303 rfl ?_
                                                                                                                            cases h
                                                                                                                            exact ev_wk (L := [some (.ref 1001), some (.ref 0), some (.ref 157), some (.int (v3 + (6 : Int32)))]) hb ⟨rfl, ⟨rfl, ⟨rfl, ⟨rfl, trivial⟩⟩⟩⟩
    · rw [if_neg hi2] at h
      cases h
def f_La_law (Lx : Nat) (g : M2) : Option (Int32 × M2) := ((lp (fun s => b_La_law_10 Lx  s.1 s.2) 5000 ((0 : Int32), g)).bind fun ue399 => Sum.elim (fun e399 => some ((1 : Int32), e399)) (fun re399 => some re399) ue399)
set_option maxRecDepth 100000 in
theorem e_La_law {Lx : Nat} (g : M2) {b : Int32 × M2} (h : f_La_law Lx g = some b) : Ev Lx 303 cd_303 10 [some (.ref 1001), some (.ref 0), some (.ref 157), some (.int (0 : Int32))] [] g (some (.int b.1), b.2) := by
  unfold f_La_law at h
  obtain ⟨ue399, he399, h⟩ := Option.bind_eq_some_iff.mp h
  cases ue399 with
  | inl e399 =>
    replace h := h
    have hX400 : Ev Lx 303 cd_303 1260 [] [] e399 (some (.int b.1), b.2) := by
      simp only [Sum.elim_inl] at h
      refine ev_rn (n := 1) (i2 := 1261) (L2 := []) (st2 := [.int (1 : Int32)]) (g2 := e399) cdE_303 rfl ?_
      cases h
      exact ev_ret rfl rt_1
    exact ev_wk (L := [some (.ref 1001), some (.ref 0), some (.ref 157), some (.int (0 : Int32))]) (lp_ind (P := (fun (s : (Int32 × M2)) => Ev Lx 303 cd_303 10 [some (.ref 1001), some (.ref 0), some (.ref 157), some (.int s.1)] [] s.2 (some (.int b.1), b.2))) (fun s s2 hs hP => tb_La_law_10   s.1 s.2 (b := .inl s2) hs hP) (fun s hs => tb_La_law_10   s.1 s.2 (b := .inr (.inl e399)) hs hX400) _ _ he399) ⟨rfl, ⟨rfl, ⟨rfl, ⟨rfl, trivial⟩⟩⟩⟩
  | inr re399 =>
    simp only [Sum.elim_inr] at h
    cases h
    exact ev_wk (L := [some (.ref 1001), some (.ref 0), some (.ref 157), some (.int (0 : Int32))]) (lp_ind (P := (fun (s : (Int32 × M2)) => Ev Lx 303 cd_303 10 [some (.ref 1001), some (.ref 0), some (.ref 157), some (.int s.1)] [] s.2 (some (.int b.1), b.2))) (fun s s2 hs hP => tb_La_law_10   s.1 s.2 (b := .inl s2) hs hP) (fun s hs => tb_La_law_10   s.1 s.2 (b := .inr (.inr b)) hs rfl) _ _ he399) ⟨rfl, ⟨rfl, ⟨rfl, ⟨rfl, trivial⟩⟩⟩⟩
