def b_Mo_placed_37 (v1 : Int32) (v2 : Int32) (v3 : Int32) (v4 : Int32) (v5 : Int32) (v6 : Int32) (g : M2) : Option ((Int32 × M2) ⊕ M2) := (if (12 : Int32) ≤ v6 then some (.inr g) else (if ((v5 >>> (v6 &&& 31)) &&& (1 : Int32)) = 0 then some (.inl ((v6 + (1 : Int32)), g)) else (if inb (g.1 157 8) 5 then (bd (uI g 162 (g.1 157 8).toNatClampNeg v6) fun g10 => (bd (uI g10 157 8 ((g10.1 157 8) + (1 : Int32))) fun g11 => some (.inl ((v6 + (1 : Int32)), g11)))) else none)))
theorem tb_Mo_placed_37 {Lx : Nat} (v1 : Int32) (v2 : Int32) (v3 : Int32) (v4 : Int32) (v5 : Int32)  (v6 : Int32) (g : M2) {b : (Int32 × M2) ⊕ M2} {o : Option Value × M2} (h : b_Mo_placed_37 v1 v2 v3 v4 v5 v6 g = some b) (hb : Sum.elim (fun s => Ev Lx 269 cd_269 37 [some (.ref 157), some (.int v1), some (.int v2), some (.int v3), some (.int v4), some (.int v5), some (.int s.1)] [] s.2 o) (fun e => Ev Lx 269 cd_269 61 [some (.ref 157), some (.int v1), some (.int v2), some (.int v3), some (.int v4), some (.int v5)] [] e o) b) : Ev Lx 269 cd_269 37 [some (.ref 157), some (.int v1), some (.int v2), some (.int v3), some (.int v4), some (.int v5), some (.int v6)] [] g o := by
  unfold b_Mo_placed_37 at h
  refine ev_rn (n := 2) (i2 := 39) (L2 := [some (.ref 157), some (.int v1), some (.int v2), some (.int v3), some (.int v4), some (.int v5), some (.int v6)]) (st2 := [.int (12 : Int32), .int v6]) (g2 := g) cdE_269 rfl ?_
  by_cases hc8 : (12 : Int32) ≤ v6
  · rw [if_pos hc8] at h
    refine ev_ift cdE_269 rfl (cn_t hc8) ?_
    cases h
    exact ev_wk (L := [some (.ref 157), some (.int v1), some (.int v2), some (.int v3), some (.int v4), some (.int v5)]) hb ⟨rfl, ⟨rfl, ⟨rfl, ⟨rfl, ⟨rfl, ⟨rfl, trivial⟩⟩⟩⟩⟩⟩
  · rw [if_neg hc8] at h
    refine ev_iff rfl (cn_f hc8) ?_
    refine ev_rn (n := 5) (i2 := 45) (L2 := [some (.ref 157), some (.int v1), some (.int v2), some (.int v3), some (.int v4), some (.int v5), some (.int v6)]) (st2 := [.int ((v5 >>> (v6 &&& 31)) &&& (1 : Int32))]) (g2 := g) cdE_269 rfl ?_
    by_cases hc9 : ((v5 >>> (v6 &&& 31)) &&& (1 : Int32)) = 0
    · rw [if_pos hc9] at h
      refine ev_zff rfl (cn_f (fun q => q hc9)) ?_
      refine ev_rn (n := 3) (i2 := 37) (L2 := [some (.ref 157), some (.int v1), some (.int v2), some (.int v3), some (.int v4), some (.int v5), some (.int (v6 + (1 : Int32)))]) (st2 := []) (g2 := g) cdE_269 rfl ?_
      cases h
      exact ev_wk (L := [some (.ref 157), some (.int v1), some (.int v2), some (.int v3), some (.int v4), some (.int v5), some (.int (v6 + (1 : Int32)))]) hb ⟨rfl, ⟨rfl, ⟨rfl, ⟨rfl, ⟨rfl, ⟨rfl, ⟨rfl, trivial⟩⟩⟩⟩⟩⟩⟩
    · rw [if_neg hc9] at h
      refine ev_zft cdE_269 rfl (cn_t hc9) ?_
      refine ev_rn (n := 5) (i2 := 52) (L2 := [some (.ref 157), some (.int v1), some (.int v2), some (.int v3), some (.int v4), some (.int v5), some (.int v6)]) (st2 := [.int v6, .int (g.1 157 8), .ref 162]) (g2 := g) cdE_269 rfl ?_
      by_cases hi12 : inb (g.1 157 8) 5
      · rw [if_pos hi12] at h
        refine bd_elim h (fun g10 hg10 h => ?_)
        refine ev_iastore (g2 := g10) rfl (show S0[162]? = some (100, 5, List.replicate 5 none) from rfl) (by decide) hi12 (by rw [hg10] <;> rfl) ?_
        refine ev_rn (n := 5) (i2 := 58) (L2 := [some (.ref 157), some (.int v1), some (.int v2), some (.int v3), some (.int v4), some (.int v5), some (.int v6)]) (st2 := [.int ((g10.1 157 8) + (1 : Int32)), .ref 157]) (g2 := g10) cdE_269 rfl ?_
        refine bd_elim h (fun g11 hg11 h => ?_)
        refine ev_pf (g2 := g11) rfl (rfl : S0[157]? = some _) (by decide) (by rw [hg11] <;> rfl) ?_
        refine ev_rn (n := 2) (i2 := 37) (L2 := [some (.ref 157), some (.int v1), some (.int v2), some (.int v3), some (.int v4), some (.int v5), some (.int (v6 + (1 : Int32)))]) (st2 := []) (g2 := g11) cdE_269 rfl ?_
        cases h
        exact ev_wk (L := [some (.ref 157), some (.int v1), some (.int v2), some (.int v3), some (.int v4), some (.int v5), some (.int (v6 + (1 : Int32)))]) hb ⟨rfl, ⟨rfl, ⟨rfl, ⟨rfl, ⟨rfl, ⟨rfl, ⟨rfl, trivial⟩⟩⟩⟩⟩⟩⟩
      · rw [if_neg hi12] at h
        cases h
def j_Mo_placed_72 (v1 : Int32) (v2 : Int32) (v3 : Int32) (v4 : Int32) (v5 : Int32) (g : M2) : Option ((Int32 × Int32 × Int32 × M2) ⊕ (Int32 × Int32 × M2)) := (if v4 = (-1 : Int32) then ((f_Mo_isLess (1 : Int32) g).bind fun q19 => (if q19.1 = 0 then some (.inl (v3, v4, (v5 + (1 : Int32)), q19.2)) else some (.inl (v3, v5, (v5 + (1 : Int32)), q19.2)))) else ((f_Mo_isLess (0 : Int32) g).bind fun q17 => (if q17.1 = 0 then some (.inl (v3, v4, (v5 + (1 : Int32)), q17.2)) else some (.inl (v3, v5, (v5 + (1 : Int32)), q17.2)))))
theorem tj_Mo_placed_72 {Lx : Nat}  (v1 : Int32) (v2 : Int32) (v3 : Int32) (v4 : Int32) (v5 : Int32)  (g : M2) {b : (Int32 × Int32 × Int32 × M2) ⊕ (Int32 × Int32 × M2)} {o : Option Value × M2} (h : j_Mo_placed_72 v1 v2 v3 v4 v5 g = some b) (hb : Sum.elim (fun s => Ev Lx 269 cd_269 24 [some (.ref 157), some (.int v1), some (.int v2), some (.int s.1), some (.int s.2.1), some (.int s.2.2.1)] [] s.2.2.2 o) (fun e => Ev Lx 269 cd_269 87 [none, none, some (.int v2), some (.int e.1), some (.int e.2.1)] [] e.2.2 o) b) : Ev Lx 269 cd_269 72 [some (.ref 157), some (.int v1), some (.int v2), some (.int v3), some (.int v4), some (.int v5)] [] g o := by
  unfold j_Mo_placed_72 at h
  refine ev_rn (n := 3) (i2 := 75) (L2 := [some (.ref 157), some (.int v1), some (.int v2), some (.int v3), some (.int v4), some (.int v5)]) (st2 := [.int (-1 : Int32), .int v4, .ref 157]) (g2 := g) cdE_269 rfl ?_
  by_cases hc16 : v4 = (-1 : Int32)
  · rw [if_pos hc16] at h
    refine ev_iff rfl (cn_f (fun q => q hc16)) ?_
    refine ev_rn (n := 2) (i2 := 79) (L2 := [some (.ref 157), some (.int v1), some (.int v2), some (.int v3), some (.int v4), some (.int v5)]) (st2 := [.int (1 : Int32), .ref 157]) (g2 := g) cdE_269 rfl ?_
    obtain ⟨q19, hq19, h⟩ := Option.bind_eq_some_iff.mp h
    refine ev_call rfl cdE_257 rfl rfl rfl (e_Mo_isLess (1 : Int32)  g hq19) ?_
    by_cases hc20 : q19.1 = 0
    · rw [if_pos hc20] at h
      refine ev_zft cdE_269 rfl (cn_t hc20) ?_
      refine ev_rn (n := 3) (i2 := 86) (L2 := [some (.ref 157), some (.int v1), some (.int v2), some (.int v3), some (.int v4), some (.int (v5 + (1 : Int32)))]) (st2 := []) (g2 := q19.2) cdE_269 rfl ?_
      refine ev_rn (n := 1) (i2 := 24) (L2 := [some (.ref 157), some (.int v1), some (.int v2), some (.int v3), some (.int v4), some (.int (v5 + (1 : Int32)))]) (st2 := []) (g2 := q19.2) cdE_269 rfl ?_
      cases h
      exact ev_wk (L := [some (.ref 157), some (.int v1), some (.int v2), some (.int v3), some (.int v4), some (.int (v5 + (1 : Int32)))]) hb ⟨rfl, ⟨rfl, ⟨rfl, ⟨rfl, ⟨rfl, ⟨rfl, trivial⟩⟩⟩⟩⟩⟩
    · rw [if_neg hc20] at h
      refine ev_zff rfl (cn_f hc20) ?_
      refine ev_rn (n := 4) (i2 := 86) (L2 := [some (.ref 157), some (.int v1), some (.int v2), some (.int v3), some (.int v5), some (.int (v5 + (1 : Int32)))]) (st2 := []) (g2 := q19.2) cdE_269 rfl ?_
      refine ev_rn (n := 1) (i2 := 24) (L2 := [some (.ref 157), some (.int v1), some (.int v2), some (.int v3), some (.int v5), some (.int (v5 + (1 : Int32)))]) (st2 := []) (g2 := q19.2) cdE_269 rfl ?_
      cases h
      exact ev_wk (L := [some (.ref 157), some (.int v1), some (.int v2), some (.int v3), some (.int v5), some (.int (v5 + (1 : Int32)))]) hb ⟨rfl, ⟨rfl, ⟨rfl, ⟨rfl, ⟨rfl, ⟨rfl, trivial⟩⟩⟩⟩⟩⟩
  · rw [if_neg hc16] at h
    refine ev_ift cdE_269 rfl (cn_t hc16) ?_
    refine ev_rn (n := 1) (i2 := 79) (L2 := [some (.ref 157), some (.int v1), some (.int v2), some (.int v3), some (.int v4), some (.int v5)]) (st2 := [.int (0 : Int32), .ref 157]) (g2 := g) cdE_269 rfl ?_
    obtain ⟨q17, hq17, h⟩ := Option.bind_eq_some_iff.mp h
    refine ev_call rfl cdE_257 rfl rfl rfl (e_Mo_isLess (0 : Int32)  g hq17) ?_
    by_cases hc18 : q17.1 = 0
    · rw [if_pos hc18] at h
      refine ev_zft cdE_269 rfl (cn_t hc18) ?_
      refine ev_rn (n := 3) (i2 := 86) (L2 := [some (.ref 157), some (.int v1), some (.int v2), some (.int v3), some (.int v4), some (.int (v5 + (1 : Int32)))]) (st2 := []) (g2 := q17.2) cdE_269 rfl ?_
      refine ev_rn (n := 1) (i2 := 24) (L2 := [some (.ref 157), some (.int v1), some (.int v2), some (.int v3), some (.int v4), some (.int (v5 + (1 : Int32)))]) (st2 := []) (g2 := q17.2) cdE_269 rfl ?_
      cases h
      exact ev_wk (L := [some (.ref 157), some (.int v1), some (.int v2), some (.int v3), some (.int v4), some (.int (v5 + (1 : Int32)))]) hb ⟨rfl, ⟨rfl, ⟨rfl, ⟨rfl, ⟨rfl, ⟨rfl, trivial⟩⟩⟩⟩⟩⟩
    · rw [if_neg hc18] at h
      refine ev_zff rfl (cn_f hc18) ?_
      refine ev_rn (n := 4) (i2 := 86) (L2 := [some (.ref 157), some (.int v1), some (.int v2), some (.int v3), some (.int v5), some (.int (v5 + (1 : Int32)))]) (st2 := []) (g2 := q17.2) cdE_269 rfl ?_
      refine ev_rn (n := 1) (i2 := 24) (L2 := [some (.ref 157), some (.int v1), some (.int v2), some (.int v3), some (.int v5), some (.int (v5 + (1 : Int32)))]) (st2 := []) (g2 := q17.2) cdE_269 rfl ?_
      cases h
      exact ev_wk (L := [some (.ref 157), some (.int v1), some (.int v2), some (.int v3), some (.int v5), some (.int (v5 + (1 : Int32)))]) hb ⟨rfl, ⟨rfl, ⟨rfl, ⟨rfl, ⟨rfl, ⟨rfl, trivial⟩⟩⟩⟩⟩⟩
def b_Mo_placed_24 (v1 : Int32) (v2 : Int32) (v3 : Int32) (v4 : Int32) (v5 : Int32) (g : M2) : Option ((Int32 × Int32 × Int32 × M2) ⊕ (Int32 × Int32 × M2)) := (if (4096 : Int32) ≤ v5 then some (.inr (v3, v4, g)) else (if (f_In_bitCount v5 g) = v1 then (bd (uI g 157 8 (0 : Int32)) fun g7 => ((lp (fun s => b_Mo_placed_37 v1 v2 v3 v4 v5 s.1 s.2) 5000 ((0 : Int32), g7)).bind fun e13 => ((f_Mo_solves e13).bind fun q14 => (if (q14.1 157 15) = 0 then (j_Mo_placed_72 v1 v2 (v3 + (0 : Int32)) v4 v5 q14) else (j_Mo_placed_72 v1 v2 (v3 + (1 : Int32)) v4 v5 q14))))) else some (.inl (v3, v4, (v5 + (1 : Int32)), g))))
theorem tb_Mo_placed_24 {Lx : Nat} (v1 : Int32) (v2 : Int32)  (v3 : Int32) (v4 : Int32) (v5 : Int32) (g : M2) {b : (Int32 × Int32 × Int32 × M2) ⊕ (Int32 × Int32 × M2)} {o : Option Value × M2} (h : b_Mo_placed_24 v1 v2 v3 v4 v5 g = some b) (hb : Sum.elim (fun s => Ev Lx 269 cd_269 24 [some (.ref 157), some (.int v1), some (.int v2), some (.int s.1), some (.int s.2.1), some (.int s.2.2.1)] [] s.2.2.2 o) (fun e => Ev Lx 269 cd_269 87 [none, none, some (.int v2), some (.int e.1), some (.int e.2.1)] [] e.2.2 o) b) : Ev Lx 269 cd_269 24 [some (.ref 157), some (.int v1), some (.int v2), some (.int v3), some (.int v4), some (.int v5)] [] g o := by
  unfold b_Mo_placed_24 at h
  refine ev_rn (n := 2) (i2 := 26) (L2 := [some (.ref 157), some (.int v1), some (.int v2), some (.int v3), some (.int v4), some (.int v5)]) (st2 := [.int (4096 : Int32), .int v5]) (g2 := g) cdE_269 rfl ?_
  by_cases hc5 : (4096 : Int32) ≤ v5
  · rw [if_pos hc5] at h
    refine ev_ift cdE_269 rfl (cn_t hc5) ?_
    cases h
    exact ev_wk (L := [none, none, some (.int v2), some (.int v3), some (.int v4)]) hb ⟨rfl, ⟨rfl, ⟨rfl, trivial⟩⟩⟩
  · rw [if_neg hc5] at h
    refine ev_iff rfl (cn_f hc5) ?_
    refine ev_rn (n := 1) (i2 := 28) (L2 := [some (.ref 157), some (.int v1), some (.int v2), some (.int v3), some (.int v4), some (.int v5)]) (st2 := [.int v5]) (g2 := g) cdE_269 rfl ?_
    refine ev_call rfl cdE_57 rfl rfl rfl (e_In_bitCount v5  g rfl) ?_
    refine ev_rn (n := 1) (i2 := 30) (L2 := [some (.ref 157), some (.int v1), some (.int v2), some (.int v3), some (.int v4), some (.int v5)]) (st2 := [.int v1, .int (f_In_bitCount v5 g)]) (g2 := g) cdE_269 rfl ?_
    by_cases hc6 : (f_In_bitCount v5 g) = v1
    · rw [if_pos hc6] at h
      refine ev_ift cdE_269 rfl (cn_t hc6) ?_
      refine ev_rn (n := 2) (i2 := 34) (L2 := [some (.ref 157), some (.int v1), some (.int v2), some (.int v3), some (.int v4), some (.int v5)]) (st2 := [.int (0 : Int32), .ref 157]) (g2 := g) cdE_269 rfl ?_
      refine bd_elim h (fun g7 hg7 h => ?_)
      refine ev_pf (g2 := g7) rfl (rfl : S0[157]? = some _) (by decide) (by rw [hg7] <;> rfl) ?_
      refine ev_rn (n := 2) (i2 := 37) (L2 := [some (.ref 157), some (.int v1), some (.int v2), some (.int v3), some (.int v4), some (.int v5), some (.int (0 : Int32))]) (st2 := []) (g2 := g7) cdE_269 rfl ?_
      obtain ⟨e13, he13, h⟩ := Option.bind_eq_some_iff.mp h
      have hX21 : Ev Lx 269 cd_269 61 [some (.ref 157), some (.int v1), some (.int v2), some (.int v3), some (.int v4), some (.int v5)] [] e13 o := by
        refine ev_rn (n := 1) (i2 := 62) (L2 := [some (.ref 157), some (.int v1), some (.int v2), some (.int v3), some (.int v4), some (.int v5)]) (st2 := [.ref 157]) (g2 := e13) cdE_269 rfl ?_
        obtain ⟨q14, hq14, h⟩ := Option.bind_eq_some_iff.mp h
        refine ev_call rfl cdE_116 rfl rfl rfl (e_Mo_solves   e13 hq14) ?_
        refine ev_rn (n := 3) (i2 := 66) (L2 := [some (.ref 157), some (.int v1), some (.int v2), some (.int v3), some (.int v4), some (.int v5)]) (st2 := [.int (q14.1 157 15), .int v3]) (g2 := q14) cdE_269 rfl ?_
        by_cases hc15 : (q14.1 157 15) = 0
        · rw [if_pos hc15] at h
          refine ev_zft cdE_269 rfl (cn_t hc15) ?_
          refine ev_rn (n := 3) (i2 := 72) (L2 := [some (.ref 157), some (.int v1), some (.int v2), some (.int (v3 + (0 : Int32))), some (.int v4), some (.int v5)]) (st2 := []) (g2 := q14) cdE_269 rfl ?_
          exact ev_wk (L := [some (.ref 157), some (.int v1), some (.int v2), some (.int (v3 + (0 : Int32))), some (.int v4), some (.int v5)]) (tj_Mo_placed_72  v1 v2 (v3 + (0 : Int32)) v4 v5  q14 h hb) ⟨rfl, ⟨rfl, ⟨rfl, ⟨rfl, ⟨rfl, ⟨rfl, trivial⟩⟩⟩⟩⟩⟩
        · rw [if_neg hc15] at h
          refine ev_zff rfl (cn_f hc15) ?_
          refine ev_rn (n := 4) (i2 := 72) (L2 := [some (.ref 157), some (.int v1), some (.int v2), some (.int (v3 + (1 : Int32))), some (.int v4), some (.int v5)]) (st2 := []) (g2 := q14) cdE_269 rfl ?_
          exact ev_wk (L := [some (.ref 157), some (.int v1), some (.int v2), some (.int (v3 + (1 : Int32))), some (.int v4), some (.int v5)]) (tj_Mo_placed_72  v1 v2 (v3 + (1 : Int32)) v4 v5  q14 h hb) ⟨rfl, ⟨rfl, ⟨rfl, ⟨rfl, ⟨rfl, ⟨rfl, trivial⟩⟩⟩⟩⟩⟩
      exact ev_wk (L := [some (.ref 157), some (.int v1), some (.int v2), some (.int v3), some (.int v4), some (.int v5), some (.int (0 : Int32))]) (lp_ind (P := (fun (s : (Int32 × M2)) => Ev Lx 269 cd_269 37 [some (.ref 157), some (.int v1), some (.int v2), some (.int v3), some (.int v4), some (.int v5), some (.int s.1)] [] s.2 o)) (fun s s2 hs hP => tb_Mo_placed_37 v1 v2 v3 v4 v5  s.1 s.2 (b := .inl s2) hs hP) (fun s hs => tb_Mo_placed_37 v1 v2 v3 v4 v5  s.1 s.2 (b := .inr e13) hs hX21) _ _ he13) ⟨rfl, ⟨rfl, ⟨rfl, ⟨rfl, ⟨rfl, ⟨rfl, ⟨rfl, trivial⟩⟩⟩⟩⟩⟩⟩
    · rw [if_neg hc6] at h
      refine ev_iff rfl (cn_f hc6) ?_
      refine ev_rn (n := 3) (i2 := 24) (L2 := [some (.ref 157), some (.int v1), some (.int v2), some (.int v3), some (.int v4), some (.int (v5 + (1 : Int32)))]) (st2 := []) (g2 := g) cdE_269 rfl ?_
      cases h
      exact ev_wk (L := [some (.ref 157), some (.int v1), some (.int v2), some (.int v3), some (.int v4), some (.int (v5 + (1 : Int32)))]) hb ⟨rfl, ⟨rfl, ⟨rfl, ⟨rfl, ⟨rfl, ⟨rfl, trivial⟩⟩⟩⟩⟩⟩
def f_Mo_placed (p0 : Int32) (p1 : Int32) (g : M2) : Option (Int32 × M2) := (if (f_Mo_in p0.toInt64 (1 : Int64) (5 : Int64) g) = 0 then some ((-2 : Int32), g) else (if (f_Mo_in p1.toInt64 (0 : Int64) (1 : Int64) g) = 0 then some ((-2 : Int32), g) else ((f_Mo_lookNow g).bind fun q3 => ((f_Mo_laysWishes q3 g).bind fun q4 => ((lp (fun s => b_Mo_placed_24 p0 p1 s.1 s.2.1 s.2.2.1 s.2.2.2) 5000 ((0 : Int32), (-1 : Int32), (1 : Int32), q4)).bind fun e22 => (if p1 = 0 then some (e22.1, e22.2.2) else some (e22.2.1, e22.2.2)))))))
theorem e_Mo_placed {Lx : Nat} (p0 : Int32) (p1 : Int32)  (g : M2) {b : (Int32 × M2)} (h : f_Mo_placed p0 p1 g = some b) : Ev Lx 269 cd_269 0 [some (.ref 157), some (.int p0), some (.int p1)] [] g (some (.int b.1), b.2) := by
  unfold f_Mo_placed at h
  refine ev_rn (n := 4) (i2 := 4) (L2 := [some (.ref 157), some (.int p0), some (.int p1)]) (st2 := [.long (5 : Int64), .long (1 : Int64), .long p0.toInt64]) (g2 := g) cdE_269 rfl ?_
  refine ev_call rfl cdE_16 rfl rfl rfl (e_Mo_in p0.toInt64 (1 : Int64) (5 : Int64)  g rfl) ?_
  by_cases hc1 : (f_Mo_in p0.toInt64 (1 : Int64) (5 : Int64) g) = 0
  · rw [if_pos hc1] at h
    refine ev_zft cdE_269 rfl (cn_t hc1) ?_
    refine ev_rn (n := 1) (i2 := 13) (L2 := [some (.ref 157), some (.int p0), some (.int p1)]) (st2 := [.int (-2 : Int32)]) (g2 := g) cdE_269 rfl ?_
    cases h
    exact ev_ret rfl rfl
  · rw [if_neg hc1] at h
    refine ev_zff rfl (cn_f hc1) ?_
    refine ev_rn (n := 4) (i2 := 10) (L2 := [some (.ref 157), some (.int p0), some (.int p1)]) (st2 := [.long (1 : Int64), .long (0 : Int64), .long p1.toInt64]) (g2 := g) cdE_269 rfl ?_
    refine ev_call rfl cdE_16 rfl rfl rfl (e_Mo_in p1.toInt64 (0 : Int64) (1 : Int64)  g rfl) ?_
    by_cases hc2 : (f_Mo_in p1.toInt64 (0 : Int64) (1 : Int64) g) = 0
    · rw [if_pos hc2] at h
      refine ev_zff rfl (cn_f (fun q => q hc2)) ?_
      refine ev_rn (n := 1) (i2 := 13) (L2 := [some (.ref 157), some (.int p0), some (.int p1)]) (st2 := [.int (-2 : Int32)]) (g2 := g) cdE_269 rfl ?_
      cases h
      exact ev_ret rfl rfl
    · rw [if_neg hc2] at h
      refine ev_zft cdE_269 rfl (cn_t hc2) ?_
      refine ev_rn (n := 4) (i2 := 18) (L2 := [some (.ref 157), some (.int p0), some (.int p1), some (.int (0 : Int32)), some (.int (-1 : Int32))]) (st2 := []) (g2 := g) cdE_269 rfl ?_
      refine ev_rn (n := 2) (i2 := 20) (L2 := [some (.ref 157), some (.int p0), some (.int p1), some (.int (0 : Int32)), some (.int (-1 : Int32))]) (st2 := [.ref 157, .ref 157]) (g2 := g) cdE_269 rfl ?_
      obtain ⟨q3, hq3, h⟩ := Option.bind_eq_some_iff.mp h
      refine ev_call rfl cdE_63 rfl rfl rfl (e_Mo_lookNow   g hq3) ?_
      obtain ⟨q4, hq4, h⟩ := Option.bind_eq_some_iff.mp h
      refine ev_call rfl cdE_103 rfl rfl rfl (e_Mo_laysWishes q3  g hq4) ?_
      refine ev_rn (n := 2) (i2 := 24) (L2 := [some (.ref 157), some (.int p0), some (.int p1), some (.int (0 : Int32)), some (.int (-1 : Int32)), some (.int (1 : Int32))]) (st2 := []) (g2 := q4) cdE_269 rfl ?_
      obtain ⟨e22, he22, h⟩ := Option.bind_eq_some_iff.mp h
      have hX24 : Ev Lx 269 cd_269 87 [none, none, some (.int p1), some (.int e22.1), some (.int e22.2.1)] [] e22.2.2 (some (.int b.1), b.2) := by
        refine ev_rn (n := 1) (i2 := 88) (L2 := [none, none, some (.int p1), some (.int e22.1), some (.int e22.2.1)]) (st2 := [.int p1]) (g2 := e22.2.2) cdE_269 rfl ?_
        by_cases hc23 : p1 = 0
        · rw [if_pos hc23] at h
          refine ev_zff rfl (cn_f (fun q => q hc23)) ?_
          refine ev_rn (n := 2) (i2 := 92) (L2 := [none, none, some (.int p1), some (.int e22.1), some (.int e22.2.1)]) (st2 := [.int e22.1]) (g2 := e22.2.2) cdE_269 rfl ?_
          cases h
          exact ev_ret rfl rfl
        · rw [if_neg hc23] at h
          refine ev_zft cdE_269 rfl (cn_t hc23) ?_
          refine ev_rn (n := 1) (i2 := 92) (L2 := [none, none, some (.int p1), some (.int e22.1), some (.int e22.2.1)]) (st2 := [.int e22.2.1]) (g2 := e22.2.2) cdE_269 rfl ?_
          cases h
          exact ev_ret rfl rfl
      exact ev_wk (L := [some (.ref 157), some (.int p0), some (.int p1), some (.int (0 : Int32)), some (.int (-1 : Int32)), some (.int (1 : Int32))]) (lp_ind (P := (fun (s : (Int32 × Int32 × Int32 × M2)) => Ev Lx 269 cd_269 24 [some (.ref 157), some (.int p0), some (.int p1), some (.int s.1), some (.int s.2.1), some (.int s.2.2.1)] [] s.2.2.2 (some (.int b.1), b.2))) (fun s s2 hs hP => tb_Mo_placed_24 p0 p1  s.1 s.2.1 s.2.2.1 s.2.2.2 (b := .inl s2) hs hP) (fun s hs => tb_Mo_placed_24 p0 p1  s.1 s.2.1 s.2.2.1 s.2.2.2 (b := .inr e22) hs hX24) _ _ he22) ⟨rfl, ⟨rfl, ⟨rfl, ⟨rfl, ⟨rfl, ⟨rfl, trivial⟩⟩⟩⟩⟩⟩
def j_Da_better_41 (v1 : Int32) (v2 : Int32) (g : M2) : Option ((Int32 × M2) ⊕ M2) := (if inb v1 5 then (bd (uI g 74 v1.toNatClampNeg v2) fun g8 => ((f_So_solve 72 g8).bind fun q9 => (if (q9.1 72 13) = 0 then some (.inl ((v2 + (1 : Int32)), q9)) else ((f_Le_offer 72 v2 q9).bind fun q11 => some (.inl ((v2 + (1 : Int32)), q11)))))) else none)
theorem tj_Da_better_41 {Lx : Nat}  (v1 : Int32) (v2 : Int32)  (g : M2) {b : (Int32 × M2) ⊕ M2} {o : Option Value × M2} (h : j_Da_better_41 v1 v2 g = some b) (hb : Sum.elim (fun s => Ev Lx 270 cd_270 26 [some (.ref 0), some (.int v1), some (.int s.1)] [] s.2 o) (fun e => Ev Lx 270 cd_270 63 [some (.ref 0)] [] e o) b) : Ev Lx 270 cd_270 41 [some (.ref 0), some (.int v1), some (.int v2)] [] g o := by
  unfold j_Da_better_41 at h
  refine ev_rn (n := 6) (i2 := 47) (L2 := [some (.ref 0), some (.int v1), some (.int v2)]) (st2 := [.int v2, .int v1, .ref 74]) (g2 := g) cdE_270 rfl ?_
  by_cases hi12 : inb v1 5
  · rw [if_pos hi12] at h
    refine bd_elim h (fun g8 hg8 h => ?_)
    refine ev_iastore (g2 := g8) rfl (show S0[74]? = some (100, 5, List.replicate 5 none) from rfl) (by decide) hi12 (by rw [hg8] <;> rfl) ?_
    refine ev_rn (n := 2) (i2 := 50) (L2 := [some (.ref 0), some (.int v1), some (.int v2)]) (st2 := [.ref 72]) (g2 := g8) cdE_270 rfl ?_
    obtain ⟨q9, hq9, h⟩ := Option.bind_eq_some_iff.mp h
    refine ev_call rfl cdE_95 rfl rfl rfl (e_So_solve 72 (by decide) g8 hq9) ?_
    refine ev_rn (n := 3) (i2 := 54) (L2 := [some (.ref 0), some (.int v1), some (.int v2)]) (st2 := [.int (q9.1 72 13)]) (g2 := q9) cdE_270 rfl ?_
    by_cases hc10 : (q9.1 72 13) = 0
    · rw [if_pos hc10] at h
      refine ev_zft cdE_270 rfl (cn_t hc10) ?_
      refine ev_rn (n := 2) (i2 := 26) (L2 := [some (.ref 0), some (.int v1), some (.int (v2 + (1 : Int32)))]) (st2 := []) (g2 := q9) cdE_270 rfl ?_
      cases h
      exact ev_wk (L := [some (.ref 0), some (.int v1), some (.int (v2 + (1 : Int32)))]) hb ⟨rfl, ⟨rfl, ⟨rfl, trivial⟩⟩⟩
    · rw [if_neg hc10] at h
      refine ev_zff rfl (cn_f hc10) ?_
      refine ev_rn (n := 5) (i2 := 60) (L2 := [some (.ref 0), some (.int v1), some (.int v2)]) (st2 := [.int v2, .ref 72, .ref 151]) (g2 := q9) cdE_270 rfl ?_
      obtain ⟨q11, hq11, h⟩ := Option.bind_eq_some_iff.mp h
      refine ev_call rfl cdE_255 rfl rfl rfl (e_Le_offer 72 v2 (by decide) q9 hq11) ?_
      refine ev_rn (n := 2) (i2 := 26) (L2 := [some (.ref 0), some (.int v1), some (.int (v2 + (1 : Int32)))]) (st2 := []) (g2 := q11) cdE_270 rfl ?_
      cases h
      exact ev_wk (L := [some (.ref 0), some (.int v1), some (.int (v2 + (1 : Int32)))]) hb ⟨rfl, ⟨rfl, ⟨rfl, trivial⟩⟩⟩
  · rw [if_neg hi12] at h
    cases h
def b_Da_better_26 (v1 : Int32) (v2 : Int32) (g : M2) : Option ((Int32 × M2) ⊕ M2) := (if (12 : Int32) ≤ v2 then some (.inr g) else ((f_Pl_elementAt 7 v2 g).bind fun q6 => (if q6 = (-1 : Int32) then (j_Da_better_41 v1 v2 g) else (if q6 = v1 then (j_Da_better_41 v1 v2 g) else some (.inl ((v2 + (1 : Int32)), g))))))
theorem tb_Da_better_26 {Lx : Nat} (v1 : Int32)  (v2 : Int32) (g : M2) {b : (Int32 × M2) ⊕ M2} {o : Option Value × M2} (h : b_Da_better_26 v1 v2 g = some b) (hb : Sum.elim (fun s => Ev Lx 270 cd_270 26 [some (.ref 0), some (.int v1), some (.int s.1)] [] s.2 o) (fun e => Ev Lx 270 cd_270 63 [some (.ref 0)] [] e o) b) : Ev Lx 270 cd_270 26 [some (.ref 0), some (.int v1), some (.int v2)] [] g o := by
  unfold b_Da_better_26 at h
  refine ev_rn (n := 2) (i2 := 28) (L2 := [some (.ref 0), some (.int v1), some (.int v2)]) (st2 := [.int (12 : Int32), .int v2]) (g2 := g) cdE_270 rfl ?_
  by_cases hc5 : (12 : Int32) ≤ v2
  · rw [if_pos hc5] at h
    refine ev_ift cdE_270 rfl (cn_t hc5) ?_
    cases h
    exact ev_wk (L := [some (.ref 0)]) hb ⟨rfl, trivial⟩
  · rw [if_neg hc5] at h
    refine ev_iff rfl (cn_f hc5) ?_
    refine ev_rn (n := 4) (i2 := 33) (L2 := [some (.ref 0), some (.int v1), some (.int v2)]) (st2 := [.int v2, .ref 7]) (g2 := g) cdE_270 rfl ?_
    obtain ⟨q6, hq6, h⟩ := Option.bind_eq_some_iff.mp h
    refine ev_call rfl cdE_28 rfl rfl rfl (e_Pl_elementAt 7 v2 (by decide) g hq6) ?_
    refine ev_rn (n := 3) (i2 := 37) (L2 := [some (.ref 0), some (.int v1), some (.int v2), some (.int q6)]) (st2 := [.int (-1 : Int32), .int q6]) (g2 := g) cdE_270 rfl ?_
    by_cases hc7 : q6 = (-1 : Int32)
    · rw [if_pos hc7] at h
      refine ev_ift cdE_270 rfl (cn_t hc7) ?_
      exact ev_wk (L := [some (.ref 0), some (.int v1), some (.int v2)]) (tj_Da_better_41  v1 v2  g h hb) ⟨rfl, ⟨rfl, ⟨rfl, trivial⟩⟩⟩
    · rw [if_neg hc7] at h
      refine ev_iff rfl (cn_f hc7) ?_
      refine ev_rn (n := 2) (i2 := 40) (L2 := [some (.ref 0), some (.int v1), some (.int v2), some (.int q6)]) (st2 := [.int v1, .int q6]) (g2 := g) cdE_270 rfl ?_
      by_cases hc13 : q6 = v1
      · rw [if_pos hc13] at h
        refine ev_iff rfl (cn_f (fun q => q hc13)) ?_
        exact ev_wk (L := [some (.ref 0), some (.int v1), some (.int v2)]) (tj_Da_better_41  v1 v2  g h hb) ⟨rfl, ⟨rfl, ⟨rfl, trivial⟩⟩⟩
      · rw [if_neg hc13] at h
        refine ev_ift cdE_270 rfl (cn_t hc13) ?_
        refine ev_rn (n := 2) (i2 := 26) (L2 := [some (.ref 0), some (.int v1), some (.int (v2 + (1 : Int32))), some (.int q6)]) (st2 := []) (g2 := g) cdE_270 rfl ?_
        cases h
        exact ev_wk (L := [some (.ref 0), some (.int v1), some (.int (v2 + (1 : Int32)))]) hb ⟨rfl, ⟨rfl, ⟨rfl, trivial⟩⟩⟩
def f_Da_better (p0 : Int32) (g : M2) : Option (Int32 × M2) := (if (f_Pl_has 7 p0 g) = 0 then some ((-2 : Int32), g) else (if (f_Pl_works 7 p0 g) = 0 then some ((-2 : Int32), g) else ((f_Le_clear g).bind fun q3 => ((f_Pl_copy 73 7 q3).bind fun q4 => ((lp (fun s => b_Da_better_26 p0 s.1 s.2) 5000 ((0 : Int32), q4)).bind fun e14 => some ((e14.1 151 0), e14))))))
theorem e_Da_better {Lx : Nat} (p0 : Int32)  (g : M2) {b : (Int32 × M2)} (h : f_Da_better p0 g = some b) : Ev Lx 270 cd_270 0 [some (.ref 0), some (.int p0)] [] g (some (.int b.1), b.2) := by
  unfold f_Da_better at h
  refine ev_rn (n := 4) (i2 := 4) (L2 := [some (.ref 0), some (.int p0)]) (st2 := [.int p0, .ref 7]) (g2 := g) cdE_270 rfl ?_
  refine ev_call rfl cdE_66 rfl rfl rfl (e_Pl_has 7 p0 (by decide) g rfl) ?_
  by_cases hc1 : (f_Pl_has 7 p0 g) = 0
  · rw [if_pos hc1] at h
    refine ev_zft cdE_270 rfl (cn_t hc1) ?_
    refine ev_rn (n := 1) (i2 := 13) (L2 := [some (.ref 0), some (.int p0)]) (st2 := [.int (-2 : Int32)]) (g2 := g) cdE_270 rfl ?_
    cases h
    exact ev_ret rfl rfl
  · rw [if_neg hc1] at h
    refine ev_zff rfl (cn_f hc1) ?_
    refine ev_rn (n := 4) (i2 := 10) (L2 := [some (.ref 0), some (.int p0)]) (st2 := [.int p0, .ref 7]) (g2 := g) cdE_270 rfl ?_
    refine ev_call rfl cdE_67 rfl rfl rfl (e_Pl_works 7 p0 (by decide) g rfl) ?_
    by_cases hc2 : (f_Pl_works 7 p0 g) = 0
    · rw [if_pos hc2] at h
      refine ev_zff rfl (cn_f (fun q => q hc2)) ?_
      refine ev_rn (n := 1) (i2 := 13) (L2 := [some (.ref 0), some (.int p0)]) (st2 := [.int (-2 : Int32)]) (g2 := g) cdE_270 rfl ?_
      cases h
      exact ev_ret rfl rfl
    · rw [if_neg hc2] at h
      refine ev_zft cdE_270 rfl (cn_t hc2) ?_
      refine ev_rn (n := 2) (i2 := 16) (L2 := [some (.ref 0), some (.int p0)]) (st2 := [.ref 151]) (g2 := g) cdE_270 rfl ?_
      obtain ⟨q3, hq3, h⟩ := Option.bind_eq_some_iff.mp h
      refine ev_call rfl cdE_254 rfl rfl rfl (e_Le_clear   g hq3) ?_
      refine ev_rn (n := 6) (i2 := 23) (L2 := [some (.ref 0), some (.int p0)]) (st2 := [.ref 7, .ref 73]) (g2 := q3) cdE_270 rfl ?_
      obtain ⟨q4, hq4, h⟩ := Option.bind_eq_some_iff.mp h
      refine ev_call rfl cdE_40 rfl rfl rfl (e_Pl_copy 73 7 (by decide) (by decide) q3 hq4) ?_
      refine ev_rn (n := 2) (i2 := 26) (L2 := [some (.ref 0), some (.int p0), some (.int (0 : Int32))]) (st2 := []) (g2 := q4) cdE_270 rfl ?_
      obtain ⟨e14, he14, h⟩ := Option.bind_eq_some_iff.mp h
      have hX15 : Ev Lx 270 cd_270 63 [some (.ref 0)] [] e14 (some (.int b.1), b.2) := by
        refine ev_rn (n := 3) (i2 := 66) (L2 := [some (.ref 0)]) (st2 := [.int (e14.1 151 0)]) (g2 := e14) cdE_270 rfl ?_
        cases h
        exact ev_ret rfl rfl
      exact ev_wk (L := [some (.ref 0), some (.int p0), some (.int (0 : Int32))]) (lp_ind (P := (fun (s : (Int32 × M2)) => Ev Lx 270 cd_270 26 [some (.ref 0), some (.int p0), some (.int s.1)] [] s.2 (some (.int b.1), b.2))) (fun s s2 hs hP => tb_Da_better_26 p0  s.1 s.2 (b := .inl s2) hs hP) (fun s hs => tb_Da_better_26 p0  s.1 s.2 (b := .inr e14) hs hX15) _ _ he14) ⟨rfl, ⟨rfl, ⟨rfl, trivial⟩⟩⟩
def b_Mo_isTaken_2 (v1 : Int32) (v2 : Int32) (g : M2) : Option (Int32 ⊕ (Unit ⊕ Int32)) := (if (g.1 160 1) ≤ v2 then some (.inr (.inl ())) else (if inb ((2 : Int32) + v2) 19 then (if (g.1 160 ((2 : Int32) + v2).toNatClampNeg) = v1 then some (.inr (.inr (1 : Int32))) else some (.inl (v2 + (1 : Int32)))) else none))
theorem tb_Mo_isTaken_2 {Lx : Nat} (v1 : Int32)  (v2 : Int32) (g : M2) {b : Int32 ⊕ (Unit ⊕ Int32)} {o : Option Value × M2} (h : b_Mo_isTaken_2 v1 v2 g = some b) (hb : Sum.elim (fun s => Ev Lx 271 cd_271 2 [some (.ref 157), some (.int v1), some (.int s)] [] g o) (Sum.elim (fun e => Ev Lx 271 cd_271 20 [] [] g o) (fun r => o = (some (.int r), g))) b) : Ev Lx 271 cd_271 2 [some (.ref 157), some (.int v1), some (.int v2)] [] g o := by
  unfold b_Mo_isTaken_2 at h
  refine ev_rn (n := 4) (i2 := 6) (L2 := [some (.ref 157), some (.int v1), some (.int v2)]) (st2 := [.int (1 : Int32), .ref 160, .int v2]) (g2 := g) cdE_271 rfl ?_
  refine ev_iaload (v := .int (g.1 160 1)) rfl (kd_of (show S0[160]? = some (100, 19, List.replicate 19 none) from rfl)) (by decide) ⟨by decide, by decide⟩ rfl ?_
  by_cases hc1 : (g.1 160 1) ≤ v2
  · rw [if_pos hc1] at h
    refine ev_ift cdE_271 rfl (cn_t hc1) ?_
    cases h
    exact ev_wk (L := []) hb trivial
  · rw [if_neg hc1] at h
    refine ev_iff rfl (cn_f hc1) ?_
    refine ev_rn (n := 5) (i2 := 13) (L2 := [some (.ref 157), some (.int v1), some (.int v2)]) (st2 := [.int ((2 : Int32) + v2), .ref 160]) (g2 := g) cdE_271 rfl ?_
    by_cases hi2 : inb ((2 : Int32) + v2) 19
    · rw [if_pos hi2] at h
      refine ev_iaload (v := .int (g.1 160 ((2 : Int32) + v2).toNatClampNeg)) rfl (kd_of (show S0[160]? = some (100, 19, List.replicate 19 none) from rfl)) (by decide) hi2 rfl ?_
      refine ev_rn (n := 1) (i2 := 15) (L2 := [some (.ref 157), some (.int v1), some (.int v2)]) (st2 := [.int v1, .int (g.1 160 ((2 : Int32) + v2).toNatClampNeg)]) (g2 := g) cdE_271 rfl ?_
      by_cases hc3 : (g.1 160 ((2 : Int32) + v2).toNatClampNeg) = v1
      · rw [if_pos hc3] at h
        refine ev_iff rfl (cn_f (fun q => q hc3)) ?_
        refine ev_rn (n := 1) (i2 := 17) (L2 := [some (.ref 157), some (.int v1), some (.int v2)]) (st2 := [.int (1 : Int32)]) (g2 := g) cdE_271 rfl ?_
        cases h
        cases hb
        exact ev_ret rfl rt_1
      · rw [if_neg hc3] at h
        refine ev_ift cdE_271 rfl (cn_t hc3) ?_
        refine ev_rn (n := 2) (i2 := 2) (L2 := [some (.ref 157), some (.int v1), some (.int (v2 + (1 : Int32)))]) (st2 := []) (g2 := g) cdE_271 rfl ?_
        cases h
        exact ev_wk (L := [some (.ref 157), some (.int v1), some (.int (v2 + (1 : Int32)))]) hb ⟨rfl, ⟨rfl, ⟨rfl, trivial⟩⟩⟩
    · rw [if_neg hi2] at h
      cases h
def f_Mo_isTaken (p0 : Int32) (g : M2) : Option (Int32) := ((lp (fun s => b_Mo_isTaken_2 p0 s g) 5000 (0 : Int32)).bind fun ue4 => Sum.elim (fun e4 => some (0 : Int32)) (fun re4 => some re4) ue4)
theorem e_Mo_isTaken {Lx : Nat} (p0 : Int32)  (g : M2) {b : Int32} (h : f_Mo_isTaken p0 g = some b) : Ev Lx 271 cd_271 0 [some (.ref 157), some (.int p0)] [] g (some (.int b), g) := by
  unfold f_Mo_isTaken at h
  refine ev_rn (n := 2) (i2 := 2) (L2 := [some (.ref 157), some (.int p0), some (.int (0 : Int32))]) (st2 := []) (g2 := g) cdE_271 rfl ?_
  obtain ⟨ue4, he4, h⟩ := Option.bind_eq_some_iff.mp h
  cases ue4 with
  | inl e4 =>
    replace h := h
    have hX5 : Ev Lx 271 cd_271 20 [] [] g (some (.int b), g) := by
      simp only [Sum.elim_inl] at h
      refine ev_rn (n := 1) (i2 := 21) (L2 := []) (st2 := [.int (0 : Int32)]) (g2 := g) cdE_271 rfl ?_
      cases h
      exact ev_ret rfl rt_0
    exact ev_wk (L := [some (.ref 157), some (.int p0), some (.int (0 : Int32))]) (lp_ind (P := (fun (s : Int32) => Ev Lx 271 cd_271 2 [some (.ref 157), some (.int p0), some (.int s)] [] g (some (.int b), g))) (fun s s2 hs hP => tb_Mo_isTaken_2 p0  s g (b := .inl s2) hs hP) (fun s hs => tb_Mo_isTaken_2 p0  s g (b := .inr (.inl e4)) hs hX5) _ _ he4) ⟨rfl, ⟨rfl, ⟨rfl, trivial⟩⟩⟩
  | inr re4 =>
    simp only [Sum.elim_inr] at h
    cases h
    exact ev_wk (L := [some (.ref 157), some (.int p0), some (.int (0 : Int32))]) (lp_ind (P := (fun (s : Int32) => Ev Lx 271 cd_271 2 [some (.ref 157), some (.int p0), some (.int s)] [] g (some (.int b), g))) (fun s s2 hs hP => tb_Mo_isTaken_2 p0  s g (b := .inl s2) hs hP) (fun s hs => tb_Mo_isTaken_2 p0  s g (b := .inr (.inr b)) hs rfl) _ _ he4) ⟨rfl, ⟨rfl, ⟨rfl, trivial⟩⟩⟩
def j_Mo_better_55 (v1 : Int32) (v2 : Int32) (v3 : Int32) (v4 : Int32) (g : M2) : Option ((Int32 × Int32 × M2) ⊕ (Int32 × M2)) := (if inb ((2 : Int32) + v1) 19 then (bd (uI g 160 ((2 : Int32) + v1).toNatClampNeg v2) fun g14 => some (.inl (v3, (v4 + (1 : Int32)), g14))) else none)
theorem tj_Mo_better_55 {Lx : Nat}  (v1 : Int32) (v2 : Int32) (v3 : Int32) (v4 : Int32)  (g : M2) {b : (Int32 × Int32 × M2) ⊕ (Int32 × M2)} {o : Option Value × M2} (h : j_Mo_better_55 v1 v2 v3 v4 g = some b) (hb : Sum.elim (fun s => Ev Lx 272 cd_272 21 [some (.ref 157), some (.int v1), some (.int v2), some (.int s.1), some (.int s.2.1)] [] s.2.2 o) (fun e => Ev Lx 272 cd_272 66 [none, none, none, some (.int e.1)] [] e.2 o) b) : Ev Lx 272 cd_272 55 [some (.ref 157), some (.int v1), some (.int v2), some (.int v3), some (.int v4)] [] g o := by
  unfold j_Mo_better_55 at h
  refine ev_rn (n := 8) (i2 := 63) (L2 := [some (.ref 157), some (.int v1), some (.int v2), some (.int v3), some (.int v4)]) (st2 := [.int v2, .int ((2 : Int32) + v1), .ref 160]) (g2 := g) cdE_272 rfl ?_
  by_cases hi15 : inb ((2 : Int32) + v1) 19
  · rw [if_pos hi15] at h
    refine bd_elim h (fun g14 hg14 h => ?_)
    refine ev_iastore (g2 := g14) rfl (show S0[160]? = some (100, 19, List.replicate 19 none) from rfl) (by decide) hi15 (by rw [hg14] <;> rfl) ?_
    refine ev_rn (n := 2) (i2 := 21) (L2 := [some (.ref 157), some (.int v1), some (.int v2), some (.int v3), some (.int (v4 + (1 : Int32)))]) (st2 := []) (g2 := g14) cdE_272 rfl ?_
    cases h
    exact ev_wk (L := [some (.ref 157), some (.int v1), some (.int v2), some (.int v3), some (.int (v4 + (1 : Int32)))]) hb ⟨rfl, ⟨rfl, ⟨rfl, ⟨rfl, ⟨rfl, trivial⟩⟩⟩⟩⟩
  · rw [if_neg hi15] at h
    cases h
def j_Mo_better_53 (v1 : Int32) (v2 : Int32) (v4 : Int32) (g : M2) : Option ((Int32 × Int32 × M2) ⊕ (Int32 × M2)) := (if inb ((2 : Int32) + v1) 19 then (bd (uI g 160 ((2 : Int32) + v1).toNatClampNeg v2) fun g16 => some (.inl (v4, (v4 + (1 : Int32)), g16))) else none)
theorem tj_Mo_better_53 {Lx : Nat}  (v1 : Int32) (v2 : Int32) (v4 : Int32)  (g : M2) {b : (Int32 × Int32 × M2) ⊕ (Int32 × M2)} {o : Option Value × M2} (h : j_Mo_better_53 v1 v2 v4 g = some b) (hb : Sum.elim (fun s => Ev Lx 272 cd_272 21 [some (.ref 157), some (.int v1), some (.int v2), some (.int s.1), some (.int s.2.1)] [] s.2.2 o) (fun e => Ev Lx 272 cd_272 66 [none, none, none, some (.int e.1)] [] e.2 o) b) : Ev Lx 272 cd_272 53 [some (.ref 157), some (.int v1), some (.int v2), none, some (.int v4)] [] g o := by
  unfold j_Mo_better_53 at h
  refine ev_rn (n := 9) (i2 := 63) (L2 := [some (.ref 157), some (.int v1), some (.int v2), some (.int v4), some (.int v4)]) (st2 := [.int v2, .int ((2 : Int32) + v1), .ref 160]) (g2 := g) cdE_272 rfl ?_
  by_cases hi17 : inb ((2 : Int32) + v1) 19
  · rw [if_pos hi17] at h
    refine bd_elim h (fun g16 hg16 h => ?_)
    refine ev_iastore (g2 := g16) rfl (show S0[160]? = some (100, 19, List.replicate 19 none) from rfl) (by decide) hi17 (by rw [hg16] <;> rfl) ?_
    refine ev_rn (n := 2) (i2 := 21) (L2 := [some (.ref 157), some (.int v1), some (.int v2), some (.int v4), some (.int (v4 + (1 : Int32)))]) (st2 := []) (g2 := g16) cdE_272 rfl ?_
    cases h
    exact ev_wk (L := [some (.ref 157), some (.int v1), some (.int v2), some (.int v4), some (.int (v4 + (1 : Int32)))]) hb ⟨rfl, ⟨rfl, ⟨rfl, ⟨rfl, ⟨rfl, trivial⟩⟩⟩⟩⟩
  · rw [if_neg hi17] at h
    cases h
def j_Mo_better_32 (v1 : Int32) (v2 : Int32) (v3 : Int32) (v4 : Int32) (g : M2) : Option ((Int32 × Int32 × M2) ⊕ (Int32 × M2)) := (if inb ((2 : Int32) + v1) 19 then (bd (uI g 160 ((2 : Int32) + v1).toNatClampNeg v4) fun g8 => ((f_Mo_lookNow g8).bind fun q9 => ((f_Mo_solvesWith (0 : Int32) q9 g8).bind fun q10 => (if v3 = (-1 : Int32) then ((f_Mo_isLess (1 : Int32) q10).bind fun q18 => (if q18.1 = 0 then (j_Mo_better_55 v1 v2 v3 v4 q18.2) else (j_Mo_better_53 v1 v2 v4 q18.2))) else ((f_Mo_isLess (0 : Int32) q10).bind fun q12 => (if q12.1 = 0 then (j_Mo_better_55 v1 v2 v3 v4 q12.2) else (j_Mo_better_53 v1 v2 v4 q12.2))))))) else none)
theorem tj_Mo_better_32 {Lx : Nat}  (v1 : Int32) (v2 : Int32) (v3 : Int32) (v4 : Int32)  (g : M2) {b : (Int32 × Int32 × M2) ⊕ (Int32 × M2)} {o : Option Value × M2} (h : j_Mo_better_32 v1 v2 v3 v4 g = some b) (hb : Sum.elim (fun s => Ev Lx 272 cd_272 21 [some (.ref 157), some (.int v1), some (.int v2), some (.int s.1), some (.int s.2.1)] [] s.2.2 o) (fun e => Ev Lx 272 cd_272 66 [none, none, none, some (.int e.1)] [] e.2 o) b) : Ev Lx 272 cd_272 32 [some (.ref 157), some (.int v1), some (.int v2), some (.int v3), some (.int v4)] [] g o := by
  unfold j_Mo_better_32 at h
  refine ev_rn (n := 6) (i2 := 38) (L2 := [some (.ref 157), some (.int v1), some (.int v2), some (.int v3), some (.int v4)]) (st2 := [.int v4, .int ((2 : Int32) + v1), .ref 160]) (g2 := g) cdE_272 rfl ?_
  by_cases hi20 : inb ((2 : Int32) + v1) 19
  · rw [if_pos hi20] at h
    refine bd_elim h (fun g8 hg8 h => ?_)
    refine ev_iastore (g2 := g8) rfl (show S0[160]? = some (100, 19, List.replicate 19 none) from rfl) (by decide) hi20 (by rw [hg8] <;> rfl) ?_
    refine ev_rn (n := 3) (i2 := 42) (L2 := [some (.ref 157), some (.int v1), some (.int v2), some (.int v3), some (.int v4)]) (st2 := [.ref 157, .int (0 : Int32), .ref 157]) (g2 := g8) cdE_272 rfl ?_
    obtain ⟨q9, hq9, h⟩ := Option.bind_eq_some_iff.mp h
    refine ev_call rfl cdE_63 rfl rfl rfl (e_Mo_lookNow   g8 hq9) ?_
    obtain ⟨q10, hq10, h⟩ := Option.bind_eq_some_iff.mp h
    refine ev_call rfl cdE_117 rfl rfl rfl (e_Mo_solvesWith (0 : Int32) q9  g8 hq10) ?_
    refine ev_rn (n := 3) (i2 := 47) (L2 := [some (.ref 157), some (.int v1), some (.int v2), some (.int v3), some (.int v4)]) (st2 := [.int (-1 : Int32), .int v3, .ref 157]) (g2 := q10) cdE_272 rfl ?_
    by_cases hc11 : v3 = (-1 : Int32)
    · rw [if_pos hc11] at h
      refine ev_iff rfl (cn_f (fun q => q hc11)) ?_
      refine ev_rn (n := 2) (i2 := 51) (L2 := [some (.ref 157), some (.int v1), some (.int v2), some (.int v3), some (.int v4)]) (st2 := [.int (1 : Int32), .ref 157]) (g2 := q10) cdE_272 rfl ?_
      obtain ⟨q18, hq18, h⟩ := Option.bind_eq_some_iff.mp h
      refine ev_call rfl cdE_257 rfl rfl rfl (e_Mo_isLess (1 : Int32)  q10 hq18) ?_
      by_cases hc19 : q18.1 = 0
      · rw [if_pos hc19] at h
        refine ev_zft cdE_272 rfl (cn_t hc19) ?_
        exact ev_wk (L := [some (.ref 157), some (.int v1), some (.int v2), some (.int v3), some (.int v4)]) (tj_Mo_better_55  v1 v2 v3 v4  q18.2 h hb) ⟨rfl, ⟨rfl, ⟨rfl, ⟨rfl, ⟨rfl, trivial⟩⟩⟩⟩⟩
      · rw [if_neg hc19] at h
        refine ev_zff rfl (cn_f hc19) ?_
        exact ev_wk (L := [some (.ref 157), some (.int v1), some (.int v2), none, some (.int v4)]) (tj_Mo_better_53  v1 v2 v4  q18.2 h hb) ⟨rfl, ⟨rfl, ⟨rfl, ⟨rfl, trivial⟩⟩⟩⟩
    · rw [if_neg hc11] at h
      refine ev_ift cdE_272 rfl (cn_t hc11) ?_
      refine ev_rn (n := 1) (i2 := 51) (L2 := [some (.ref 157), some (.int v1), some (.int v2), some (.int v3), some (.int v4)]) (st2 := [.int (0 : Int32), .ref 157]) (g2 := q10) cdE_272 rfl ?_
      obtain ⟨q12, hq12, h⟩ := Option.bind_eq_some_iff.mp h
      refine ev_call rfl cdE_257 rfl rfl rfl (e_Mo_isLess (0 : Int32)  q10 hq12) ?_
      by_cases hc13 : q12.1 = 0
      · rw [if_pos hc13] at h
        refine ev_zft cdE_272 rfl (cn_t hc13) ?_
        exact ev_wk (L := [some (.ref 157), some (.int v1), some (.int v2), some (.int v3), some (.int v4)]) (tj_Mo_better_55  v1 v2 v3 v4  q12.2 h hb) ⟨rfl, ⟨rfl, ⟨rfl, ⟨rfl, ⟨rfl, trivial⟩⟩⟩⟩⟩
      · rw [if_neg hc13] at h
        refine ev_zff rfl (cn_f hc13) ?_
        exact ev_wk (L := [some (.ref 157), some (.int v1), some (.int v2), none, some (.int v4)]) (tj_Mo_better_53  v1 v2 v4  q12.2 h hb) ⟨rfl, ⟨rfl, ⟨rfl, ⟨rfl, trivial⟩⟩⟩⟩
  · rw [if_neg hi20] at h
    cases h
def b_Mo_better_21 (v1 : Int32) (v2 : Int32) (v3 : Int32) (v4 : Int32) (g : M2) : Option ((Int32 × Int32 × M2) ⊕ (Int32 × M2)) := (if (12 : Int32) ≤ v4 then some (.inr (v3, g)) else (if v4 = v2 then (j_Mo_better_32 v1 v2 v3 v4 g) else ((f_Mo_isTaken v4 g).bind fun q21 => (if q21 = 0 then (j_Mo_better_32 v1 v2 v3 v4 g) else some (.inl (v3, (v4 + (1 : Int32)), g))))))
theorem tb_Mo_better_21 {Lx : Nat} (v1 : Int32) (v2 : Int32)  (v3 : Int32) (v4 : Int32) (g : M2) {b : (Int32 × Int32 × M2) ⊕ (Int32 × M2)} {o : Option Value × M2} (h : b_Mo_better_21 v1 v2 v3 v4 g = some b) (hb : Sum.elim (fun s => Ev Lx 272 cd_272 21 [some (.ref 157), some (.int v1), some (.int v2), some (.int s.1), some (.int s.2.1)] [] s.2.2 o) (fun e => Ev Lx 272 cd_272 66 [none, none, none, some (.int e.1)] [] e.2 o) b) : Ev Lx 272 cd_272 21 [some (.ref 157), some (.int v1), some (.int v2), some (.int v3), some (.int v4)] [] g o := by
  unfold b_Mo_better_21 at h
  refine ev_rn (n := 2) (i2 := 23) (L2 := [some (.ref 157), some (.int v1), some (.int v2), some (.int v3), some (.int v4)]) (st2 := [.int (12 : Int32), .int v4]) (g2 := g) cdE_272 rfl ?_
  by_cases hc6 : (12 : Int32) ≤ v4
  · rw [if_pos hc6] at h
    refine ev_ift cdE_272 rfl (cn_t hc6) ?_
    cases h
    exact ev_wk (L := [none, none, none, some (.int v3)]) hb ⟨rfl, trivial⟩
  · rw [if_neg hc6] at h
    refine ev_iff rfl (cn_f hc6) ?_
    refine ev_rn (n := 2) (i2 := 26) (L2 := [some (.ref 157), some (.int v1), some (.int v2), some (.int v3), some (.int v4)]) (st2 := [.int v2, .int v4]) (g2 := g) cdE_272 rfl ?_
    by_cases hc7 : v4 = v2
    · rw [if_pos hc7] at h
      refine ev_ift cdE_272 rfl (cn_t hc7) ?_
      exact ev_wk (L := [some (.ref 157), some (.int v1), some (.int v2), some (.int v3), some (.int v4)]) (tj_Mo_better_32  v1 v2 v3 v4  g h hb) ⟨rfl, ⟨rfl, ⟨rfl, ⟨rfl, ⟨rfl, trivial⟩⟩⟩⟩⟩
    · rw [if_neg hc7] at h
      refine ev_iff rfl (cn_f hc7) ?_
      refine ev_rn (n := 2) (i2 := 29) (L2 := [some (.ref 157), some (.int v1), some (.int v2), some (.int v3), some (.int v4)]) (st2 := [.int v4, .ref 157]) (g2 := g) cdE_272 rfl ?_
      obtain ⟨q21, hq21, h⟩ := Option.bind_eq_some_iff.mp h
      refine ev_call rfl cdE_271 rfl rfl rfl (e_Mo_isTaken v4  g hq21) ?_
      by_cases hc22 : q21 = 0
      · rw [if_pos hc22] at h
        refine ev_zft cdE_272 rfl (cn_t hc22) ?_
        exact ev_wk (L := [some (.ref 157), some (.int v1), some (.int v2), some (.int v3), some (.int v4)]) (tj_Mo_better_32  v1 v2 v3 v4  g h hb) ⟨rfl, ⟨rfl, ⟨rfl, ⟨rfl, ⟨rfl, trivial⟩⟩⟩⟩⟩
      · rw [if_neg hc22] at h
        refine ev_zff rfl (cn_f hc22) ?_
        refine ev_rn (n := 3) (i2 := 21) (L2 := [some (.ref 157), some (.int v1), some (.int v2), some (.int v3), some (.int (v4 + (1 : Int32)))]) (st2 := []) (g2 := g) cdE_272 rfl ?_
        cases h
        exact ev_wk (L := [some (.ref 157), some (.int v1), some (.int v2), some (.int v3), some (.int (v4 + (1 : Int32)))]) hb ⟨rfl, ⟨rfl, ⟨rfl, ⟨rfl, ⟨rfl, trivial⟩⟩⟩⟩⟩
def f_Mo_better (p0 : Int32) (g : M2) : Option (Int32 × M2) := ((f_Mo_isElement p0 g).bind fun q1 => (if q1 = 0 then some ((-2 : Int32), g) else ((f_Mo_isBroken p0 g).bind fun q3 => (if q3 = 0 then (if inb ((2 : Int32) + p0) 19 then ((lp (fun s => b_Mo_better_21 p0 (g.1 160 ((2 : Int32) + p0).toNatClampNeg) s.1 s.2.1 s.2.2) 5000 ((-1 : Int32), (0 : Int32), g)).bind fun e23 => some (e23.1, e23.2)) else none) else some ((-2 : Int32), g)))))
theorem e_Mo_better {Lx : Nat} (p0 : Int32)  (g : M2) {b : (Int32 × M2)} (h : f_Mo_better p0 g = some b) : Ev Lx 272 cd_272 0 [some (.ref 157), some (.int p0)] [] g (some (.int b.1), b.2) := by
  unfold f_Mo_better at h
  refine ev_rn (n := 2) (i2 := 2) (L2 := [some (.ref 157), some (.int p0)]) (st2 := [.int p0, .ref 157]) (g2 := g) cdE_272 rfl ?_
  obtain ⟨q1, hq1, h⟩ := Option.bind_eq_some_iff.mp h
  refine ev_call rfl cdE_69 rfl rfl rfl (e_Mo_isElement p0  g hq1) ?_
  by_cases hc2 : q1 = 0
  · rw [if_pos hc2] at h
    refine ev_zft cdE_272 rfl (cn_t hc2) ?_
    refine ev_rn (n := 1) (i2 := 9) (L2 := [some (.ref 157), some (.int p0)]) (st2 := [.int (-2 : Int32)]) (g2 := g) cdE_272 rfl ?_
    cases h
    exact ev_ret rfl rfl
  · rw [if_neg hc2] at h
    refine ev_zff rfl (cn_f hc2) ?_
    refine ev_rn (n := 2) (i2 := 6) (L2 := [some (.ref 157), some (.int p0)]) (st2 := [.int p0, .ref 157]) (g2 := g) cdE_272 rfl ?_
    obtain ⟨q3, hq3, h⟩ := Option.bind_eq_some_iff.mp h
    refine ev_call rfl cdE_61 rfl rfl rfl (e_Mo_isBroken p0  g hq3) ?_
    by_cases hc4 : q3 = 0
    · rw [if_pos hc4] at h
      refine ev_zft cdE_272 rfl (cn_t hc4) ?_
      refine ev_rn (n := 5) (i2 := 15) (L2 := [some (.ref 157), some (.int p0)]) (st2 := [.int ((2 : Int32) + p0), .ref 160]) (g2 := g) cdE_272 rfl ?_
      by_cases hi5 : inb ((2 : Int32) + p0) 19
      · rw [if_pos hi5] at h
        refine ev_iaload (v := .int (g.1 160 ((2 : Int32) + p0).toNatClampNeg)) rfl (kd_of (show S0[160]? = some (100, 19, List.replicate 19 none) from rfl)) (by decide) hi5 rfl ?_
        refine ev_rn (n := 3) (i2 := 19) (L2 := [some (.ref 157), some (.int p0), some (.int (g.1 160 ((2 : Int32) + p0).toNatClampNeg)), some (.int (-1 : Int32))]) (st2 := []) (g2 := g) cdE_272 rfl ?_
        refine ev_rn (n := 2) (i2 := 21) (L2 := [some (.ref 157), some (.int p0), some (.int (g.1 160 ((2 : Int32) + p0).toNatClampNeg)), some (.int (-1 : Int32)), some (.int (0 : Int32))]) (st2 := []) (g2 := g) cdE_272 rfl ?_
        obtain ⟨e23, he23, h⟩ := Option.bind_eq_some_iff.mp h
        have hX24 : Ev Lx 272 cd_272 66 [none, none, none, some (.int e23.1)] [] e23.2 (some (.int b.1), b.2) := by
          refine ev_rn (n := 1) (i2 := 67) (L2 := [none, none, none, some (.int e23.1)]) (st2 := [.int e23.1]) (g2 := e23.2) cdE_272 rfl ?_
          cases h
          exact ev_ret rfl rfl
        exact ev_wk (L := [some (.ref 157), some (.int p0), some (.int (g.1 160 ((2 : Int32) + p0).toNatClampNeg)), some (.int (-1 : Int32)), some (.int (0 : Int32))]) (lp_ind (P := (fun (s : (Int32 × Int32 × M2)) => Ev Lx 272 cd_272 21 [some (.ref 157), some (.int p0), some (.int (g.1 160 ((2 : Int32) + p0).toNatClampNeg)), some (.int s.1), some (.int s.2.1)] [] s.2.2 (some (.int b.1), b.2))) (fun s s2 hs hP => tb_Mo_better_21 p0 (g.1 160 ((2 : Int32) + p0).toNatClampNeg)  s.1 s.2.1 s.2.2 (b := .inl s2) hs hP) (fun s hs => tb_Mo_better_21 p0 (g.1 160 ((2 : Int32) + p0).toNatClampNeg)  s.1 s.2.1 s.2.2 (b := .inr e23) hs hX24) _ _ he23) ⟨rfl, ⟨rfl, ⟨rfl, ⟨rfl, ⟨rfl, trivial⟩⟩⟩⟩⟩
      · rw [if_neg hi5] at h
        cases h
    · rw [if_neg hc4] at h
      refine ev_zff rfl (cn_f hc4) ?_
      refine ev_rn (n := 1) (i2 := 9) (L2 := [some (.ref 157), some (.int p0)]) (st2 := [.int (-2 : Int32)]) (g2 := g) cdE_272 rfl ?_
      cases h
      exact ev_ret rfl rfl
def f_Da_isFactor (p0 : Int32) (g : M2) : Int32 := (if p0 < (-9 : Int32) then (0 : Int32) else (if (9 : Int32) < p0 then (0 : Int32) else (1 : Int32)))
theorem e_Da_isFactor {Lx : Nat} (p0 : Int32)  (g : M2) {b : Int32} (h : f_Da_isFactor p0 g = b) : Ev Lx 273 cd_273 0 [some (.int p0)] [] g (some (.int b), g) := by
  unfold f_Da_isFactor at h
  refine ev_rn (n := 2) (i2 := 2) (L2 := [some (.int p0)]) (st2 := [.int (-9 : Int32), .int p0]) (g2 := g) cdE_273 rfl ?_
  by_cases hc1 : p0 < (-9 : Int32)
  · rw [if_pos hc1] at h
    refine ev_ift cdE_273 rfl (cn_t hc1) ?_
    refine ev_rn (n := 1) (i2 := 9) (L2 := [some (.int p0)]) (st2 := [.int (0 : Int32)]) (g2 := g) cdE_273 rfl ?_
    subst h
    exact ev_ret rfl rt_0
  · rw [if_neg hc1] at h
    refine ev_iff rfl (cn_f hc1) ?_
    refine ev_rn (n := 2) (i2 := 5) (L2 := [some (.int p0)]) (st2 := [.int (9 : Int32), .int p0]) (g2 := g) cdE_273 rfl ?_
    by_cases hc2 : (9 : Int32) < p0
    · rw [if_pos hc2] at h
      refine ev_ift cdE_273 rfl (cn_t hc2) ?_
      refine ev_rn (n := 1) (i2 := 9) (L2 := [some (.int p0)]) (st2 := [.int (0 : Int32)]) (g2 := g) cdE_273 rfl ?_
      subst h
      exact ev_ret rfl rt_0
    · rw [if_neg hc2] at h
      refine ev_iff rfl (cn_f hc2) ?_
      refine ev_rn (n := 2) (i2 := 9) (L2 := [some (.int p0)]) (st2 := [.int (1 : Int32)]) (g2 := g) cdE_273 rfl ?_
      subst h
      exact ev_ret rfl rt_1
def f_Da_both (p0 : Int32) (p1 : Int32) (p2 : Int32) (p3 : Int32) (p4 : Int32) (g : M2) : Option (Int64 × M2) := ((f_Da_refresh g).bind fun q1 => (if (q1.1 6 13) = 0 then some ((-9223372036854775808 : Int64), q1) else (if (f_Da_isDirection p0 q1) = 0 then some ((-9223372036854775808 : Int64), q1) else (if (f_Da_isDirection p3 q1) = 0 then some ((-9223372036854775808 : Int64), q1) else (if (f_Da_isFactor p1 q1) = 0 then some ((-9223372036854775808 : Int64), q1) else (if (f_Da_isFactor p2 q1) = 0 then some ((-9223372036854775808 : Int64), q1) else ((f_Da_holdsLooking p0 q1).bind fun q7 => (if q7.1 = 0 then some ((-9223372036854775808 : Int64), q7.2) else ((f_Pl_hearBy 73 115 p3 155 q7.2).bind fun q9 => ((f_Nu_scale 155 (p2.toInt64 * (q9.2 6 16)) q9).bind fun q10 => (if inb p3 12 then ((f_Nu_addScaled 155 (55 + 1 + p3.toNatClampNeg) (p1.toInt64 * (q10.2 72 16)) q10).bind fun q12 => ((f_Da_partOf 155 ((q12.2 6 16) * (q12.2 72 16)) p4 q12).bind fun q13 => some (q13.1, q13.2))) else none)))))))))))
theorem e_Da_both {Lx : Nat} (p0 : Int32) (p1 : Int32) (p2 : Int32) (p3 : Int32) (p4 : Int32)  (g : M2) {b : (Int64 × M2)} (h : f_Da_both p0 p1 p2 p3 p4 g = some b) : Ev Lx 274 cd_274 0 [some (.ref 0), some (.int p0), some (.int p1), some (.int p2), some (.int p3), some (.int p4)] [] g (some (.long b.1), b.2) := by
  unfold f_Da_both at h
  refine ev_rn (n := 1) (i2 := 1) (L2 := [some (.ref 0), some (.int p0), some (.int p1), some (.int p2), some (.int p3), some (.int p4)]) (st2 := [.ref 0]) (g2 := g) cdE_274 rfl ?_
  obtain ⟨q1, hq1, h⟩ := Option.bind_eq_some_iff.mp h
  refine ev_call rfl cdE_100 rfl rfl rfl (e_Da_refresh   g hq1) ?_
  refine ev_rn (n := 3) (i2 := 5) (L2 := [some (.ref 0), some (.int p0), some (.int p1), some (.int p2), some (.int p3), some (.int p4)]) (st2 := [.int (q1.1 6 13)]) (g2 := q1) cdE_274 rfl ?_
  by_cases hc2 : (q1.1 6 13) = 0
  · rw [if_pos hc2] at h
    refine ev_zft cdE_274 rfl (cn_t hc2) ?_
    refine ev_rn (n := 1) (i2 := 19) (L2 := [some (.ref 0), some (.int p0), some (.int p1), some (.int p2), some (.int p3), some (.int p4)]) (st2 := [.long (-9223372036854775808 : Int64)]) (g2 := q1) cdE_274 rfl ?_
    cases h
    exact ev_ret rfl rfl
  · rw [if_neg hc2] at h
    refine ev_zff rfl (cn_f hc2) ?_
    refine ev_rn (n := 1) (i2 := 7) (L2 := [some (.ref 0), some (.int p0), some (.int p1), some (.int p2), some (.int p3), some (.int p4)]) (st2 := [.int p0]) (g2 := q1) cdE_274 rfl ?_
    refine ev_call rfl cdE_71 rfl rfl rfl (e_Da_isDirection p0  q1 rfl) ?_
    by_cases hc3 : (f_Da_isDirection p0 q1) = 0
    · rw [if_pos hc3] at h
      refine ev_zft cdE_274 rfl (cn_t hc3) ?_
      refine ev_rn (n := 1) (i2 := 19) (L2 := [some (.ref 0), some (.int p0), some (.int p1), some (.int p2), some (.int p3), some (.int p4)]) (st2 := [.long (-9223372036854775808 : Int64)]) (g2 := q1) cdE_274 rfl ?_
      cases h
      exact ev_ret rfl rfl
    · rw [if_neg hc3] at h
      refine ev_zff rfl (cn_f hc3) ?_
      refine ev_rn (n := 1) (i2 := 10) (L2 := [some (.ref 0), some (.int p0), some (.int p1), some (.int p2), some (.int p3), some (.int p4)]) (st2 := [.int p3]) (g2 := q1) cdE_274 rfl ?_
      refine ev_call rfl cdE_71 rfl rfl rfl (e_Da_isDirection p3  q1 rfl) ?_
      by_cases hc4 : (f_Da_isDirection p3 q1) = 0
      · rw [if_pos hc4] at h
        refine ev_zft cdE_274 rfl (cn_t hc4) ?_
        refine ev_rn (n := 1) (i2 := 19) (L2 := [some (.ref 0), some (.int p0), some (.int p1), some (.int p2), some (.int p3), some (.int p4)]) (st2 := [.long (-9223372036854775808 : Int64)]) (g2 := q1) cdE_274 rfl ?_
        cases h
        exact ev_ret rfl rfl
      · rw [if_neg hc4] at h
        refine ev_zff rfl (cn_f hc4) ?_
        refine ev_rn (n := 1) (i2 := 13) (L2 := [some (.ref 0), some (.int p0), some (.int p1), some (.int p2), some (.int p3), some (.int p4)]) (st2 := [.int p1]) (g2 := q1) cdE_274 rfl ?_
        refine ev_call rfl cdE_273 rfl rfl rfl (e_Da_isFactor p1  q1 rfl) ?_
        by_cases hc5 : (f_Da_isFactor p1 q1) = 0
        · rw [if_pos hc5] at h
          refine ev_zft cdE_274 rfl (cn_t hc5) ?_
          refine ev_rn (n := 1) (i2 := 19) (L2 := [some (.ref 0), some (.int p0), some (.int p1), some (.int p2), some (.int p3), some (.int p4)]) (st2 := [.long (-9223372036854775808 : Int64)]) (g2 := q1) cdE_274 rfl ?_
          cases h
          exact ev_ret rfl rfl
        · rw [if_neg hc5] at h
          refine ev_zff rfl (cn_f hc5) ?_
          refine ev_rn (n := 1) (i2 := 16) (L2 := [some (.ref 0), some (.int p0), some (.int p1), some (.int p2), some (.int p3), some (.int p4)]) (st2 := [.int p2]) (g2 := q1) cdE_274 rfl ?_
          refine ev_call rfl cdE_273 rfl rfl rfl (e_Da_isFactor p2  q1 rfl) ?_
          by_cases hc6 : (f_Da_isFactor p2 q1) = 0
          · rw [if_pos hc6] at h
            refine ev_zff rfl (cn_f (fun q => q hc6)) ?_
            refine ev_rn (n := 1) (i2 := 19) (L2 := [some (.ref 0), some (.int p0), some (.int p1), some (.int p2), some (.int p3), some (.int p4)]) (st2 := [.long (-9223372036854775808 : Int64)]) (g2 := q1) cdE_274 rfl ?_
            cases h
            exact ev_ret rfl rfl
          · rw [if_neg hc6] at h
            refine ev_zft cdE_274 rfl (cn_t hc6) ?_
            refine ev_rn (n := 2) (i2 := 22) (L2 := [some (.ref 0), some (.int p0), some (.int p1), some (.int p2), some (.int p3), some (.int p4)]) (st2 := [.int p0, .ref 0]) (g2 := q1) cdE_274 rfl ?_
            obtain ⟨q7, hq7, h⟩ := Option.bind_eq_some_iff.mp h
            refine ev_call rfl cdE_251 rfl rfl rfl (e_Da_holdsLooking p0  q1 hq7) ?_
            by_cases hc8 : q7.1 = 0
            · rw [if_pos hc8] at h
              refine ev_zff rfl (cn_f (fun q => q hc8)) ?_
              refine ev_rn (n := 1) (i2 := 25) (L2 := [some (.ref 0), some (.int p0), some (.int p1), some (.int p2), some (.int p3), some (.int p4)]) (st2 := [.long (-9223372036854775808 : Int64)]) (g2 := q7.2) cdE_274 rfl ?_
              cases h
              exact ev_ret rfl rfl
            · rw [if_neg hc8] at h
              refine ev_zft cdE_274 rfl (cn_t hc8) ?_
              refine ev_rn (n := 9) (i2 := 35) (L2 := [some (.ref 0), some (.int p0), some (.int p1), some (.int p2), some (.int p3), some (.int p4)]) (st2 := [.ref 155, .int p3, .ref 115, .ref 73]) (g2 := q7.2) cdE_274 rfl ?_
              obtain ⟨q9, hq9, h⟩ := Option.bind_eq_some_iff.mp h
              refine ev_call rfl cdE_96 rfl rfl rfl (e_Pl_hearBy 73 115 p3 155 (by decide) (na_115) (num_lit 155 rfl) q7.2 hq9) ?_
              refine ev_rn (n := 8) (i2 := 44) (L2 := [some (.ref 0), some (.int p0), some (.int p1), some (.int p2), some (.int p3), some (.int p4)]) (st2 := [.long (p2.toInt64 * (q9.2 6 16)), .ref 155]) (g2 := q9) cdE_274 rfl ?_
              obtain ⟨q10, hq10, h⟩ := Option.bind_eq_some_iff.mp h
              refine ev_call rfl cdE_222 rfl rfl rfl (e_Nu_scale 155 (p2.toInt64 * (q9.2 6 16)) (num_lit 155 rfl) q9 hq10) ?_
              refine ev_rn (n := 6) (i2 := 51) (L2 := [some (.ref 0), some (.int p0), some (.int p1), some (.int p2), some (.int p3), some (.int p4)]) (st2 := [.int p3, .ref 55, .ref 155]) (g2 := q10) cdE_274 rfl ?_
              by_cases hi11 : inb p3 12
              · rw [if_pos hi11] at h
                refine ev_aaload (v := .ref (55 + 1 + p3.toNatClampNeg)) rfl (kd_of (na_at (na_55))) (by decide) hi11 (na_rf (w := 55) hi11.2) ?_
                refine ev_rn (n := 6) (i2 := 58) (L2 := [some (.ref 0), some (.int p0), some (.int p1), some (.int p2), some (.int p3), some (.int p4)]) (st2 := [.long (p1.toInt64 * (q10.2 72 16)), .ref (55 + 1 + p3.toNatClampNeg), .ref 155]) (g2 := q10) cdE_274 rfl ?_
                obtain ⟨q12, hq12, h⟩ := Option.bind_eq_some_iff.mp h
                refine ev_call rfl cdE_223 rfl rfl rfl (e_Nu_addScaled 155 (55 + 1 + p3.toNatClampNeg) (p1.toInt64 * (q10.2 72 16)) (num_lit 155 rfl) (na_el (na_55) hi11.2) q10 hq12) ?_
                refine ev_rn (n := 11) (i2 := 70) (L2 := [some (.ref 0), some (.int p0), some (.int p1), some (.int p2), some (.int p3), some (.int p4)]) (st2 := [.int p4, .long ((q12.2 6 16) * (q12.2 72 16)), .ref 155, .ref 0]) (g2 := q12) cdE_274 rfl ?_
                obtain ⟨q13, hq13, h⟩ := Option.bind_eq_some_iff.mp h
                refine ev_call rfl cdE_128 rfl rfl rfl (e_Da_partOf 155 ((q12.2 6 16) * (q12.2 72 16)) p4 (num_lit 155 rfl) q12 hq13) ?_
                cases h
                exact ev_ret rfl rfl
              · rw [if_neg hi11] at h
                cases h
def b_Mo_both_55 (v2 : Int32) (v3 : Int32) (v4 : Int32) (v5 : Int32) (v6 : Int64) (v8 : Int32) (g : M2) : Option ((Int32 × M2) ⊕ M2) := (if (4 : Int32) ≤ v8 then some (.inr g) else (if inb ((348 : Int32) + v8) 352 then ((f_Mo_part ((67 : Int32) + v4) v8 g).bind fun q14 => (if inb ((348 : Int32) + v8) 352 then (bd (uJ g 158 ((348 : Int32) + v8).toNatClampNeg ((((g.2 158 ((348 : Int32) + v8).toNatClampNeg) * v3.toInt64) * (g.2 157 16)) + ((q14 * v2.toInt64) * v6))) fun g15 => some (.inl ((v8 + (1 : Int32)), g15))) else none)) else none))
theorem tb_Mo_both_55 {Lx : Nat} (v2 : Int32) (v3 : Int32) (v4 : Int32) (v5 : Int32) (v6 : Int64)  (v8 : Int32) (g : M2) {b : (Int32 × M2) ⊕ M2} {o : Option Value × M2} (h : b_Mo_both_55 v2 v3 v4 v5 v6 v8 g = some b) (hb : Sum.elim (fun s => Ev Lx 275 cd_275 55 [some (.ref 157), none, some (.int v2), some (.int v3), some (.int v4), some (.int v5), some (.long v6), none, some (.int s.1)] [] s.2 o) (fun e => Ev Lx 275 cd_275 90 [some (.ref 157), none, none, none, none, some (.int v5), some (.long v6)] [] e o) b) : Ev Lx 275 cd_275 55 [some (.ref 157), none, some (.int v2), some (.int v3), some (.int v4), some (.int v5), some (.long v6), none, some (.int v8)] [] g o := by
  unfold b_Mo_both_55 at h
  refine ev_rn (n := 2) (i2 := 57) (L2 := [some (.ref 157), none, some (.int v2), some (.int v3), some (.int v4), some (.int v5), some (.long v6), none, some (.int v8)]) (st2 := [.int (4 : Int32), .int v8]) (g2 := g) cdE_275 rfl ?_
  by_cases hc12 : (4 : Int32) ≤ v8
  · rw [if_pos hc12] at h
    refine ev_ift cdE_275 rfl (cn_t hc12) ?_
    cases h
    exact ev_wk (L := [some (.ref 157), none, none, none, none, some (.int v5), some (.long v6)]) hb ⟨rfl, ⟨rfl, ⟨rfl, trivial⟩⟩⟩
  · rw [if_neg hc12] at h
    refine ev_iff rfl (cn_f hc12) ?_
    refine ev_rn (n := 10) (i2 := 68) (L2 := [some (.ref 157), none, some (.int v2), some (.int v3), some (.int v4), some (.int v5), some (.long v6), none, some (.int v8)]) (st2 := [.int ((348 : Int32) + v8), .ref 158, .int ((348 : Int32) + v8), .ref 158]) (g2 := g) cdE_275 rfl ?_
    by_cases hi13 : inb ((348 : Int32) + v8) 352
    · rw [if_pos hi13] at h
      refine ev_laload (v := .long (g.2 158 ((348 : Int32) + v8).toNatClampNeg)) rfl (kd_of (show S0[158]? = some (101, 352, List.replicate 352 none) from rfl)) (by decide) hi13 rfl ?_
      refine ev_rn (n := 11) (i2 := 80) (L2 := [some (.ref 157), none, some (.int v2), some (.int v3), some (.int v4), some (.int v5), some (.long v6), none, some (.int v8)]) (st2 := [.int v8, .int ((67 : Int32) + v4), .ref 157, .long (((g.2 158 ((348 : Int32) + v8).toNatClampNeg) * v3.toInt64) * (g.2 157 16)), .int ((348 : Int32) + v8), .ref 158]) (g2 := g) cdE_275 rfl ?_
      obtain ⟨q14, hq14, h⟩ := Option.bind_eq_some_iff.mp h
      refine ev_call rfl cdE_110 rfl rfl rfl (e_Mo_part ((67 : Int32) + v4) v8  g hq14) ?_
      refine ev_rn (n := 6) (i2 := 87) (L2 := [some (.ref 157), none, some (.int v2), some (.int v3), some (.int v4), some (.int v5), some (.long v6), none, some (.int v8)]) (st2 := [.long ((((g.2 158 ((348 : Int32) + v8).toNatClampNeg) * v3.toInt64) * (g.2 157 16)) + ((q14 * v2.toInt64) * v6)), .int ((348 : Int32) + v8), .ref 158]) (g2 := g) cdE_275 rfl ?_
      by_cases hi16 : inb ((348 : Int32) + v8) 352
      · rw [if_pos hi16] at h
        refine bd_elim h (fun g15 hg15 h => ?_)
        refine ev_lastore (g2 := g15) rfl (show S0[158]? = some (101, 352, List.replicate 352 none) from rfl) (by decide) hi16 (by rw [hg15] <;> rfl) ?_
        refine ev_rn (n := 2) (i2 := 55) (L2 := [some (.ref 157), none, some (.int v2), some (.int v3), some (.int v4), some (.int v5), some (.long v6), none, some (.int (v8 + (1 : Int32)))]) (st2 := []) (g2 := g15) cdE_275 rfl ?_
        cases h
        exact ev_wk (L := [some (.ref 157), none, some (.int v2), some (.int v3), some (.int v4), some (.int v5), some (.long v6), none, some (.int (v8 + (1 : Int32)))]) hb ⟨rfl, ⟨rfl, ⟨rfl, ⟨rfl, ⟨rfl, ⟨rfl, ⟨rfl, trivial⟩⟩⟩⟩⟩⟩⟩
      · rw [if_neg hi16] at h
        cases h
    · rw [if_neg hi13] at h
      cases h
def f_Mo_both (p0 : Int32) (p1 : Int32) (p2 : Int32) (p3 : Int32) (p4 : Int32) (g : M2) : Option (Int64 × M2) := (if (f_Mo_isDirection p0 g) = 0 then some ((-9223372036854775808 : Int64), g) else (if (f_Mo_in p1.toInt64 (-9 : Int64) (9 : Int64) g) = 0 then some ((-9223372036854775808 : Int64), g) else (if (f_Mo_in p2.toInt64 (-9 : Int64) (9 : Int64) g) = 0 then some ((-9223372036854775808 : Int64), g) else (if (f_Mo_isDirection p3 g) = 0 then some ((-9223372036854775808 : Int64), g) else (if (f_Mo_in p4.toInt64 (0 : Int64) (4 : Int64) g) = 0 then some ((-9223372036854775808 : Int64), g) else ((f_Mo_solvesWith (0 : Int32) p0 g).bind fun q6 => (if (q6.1 157 15) = 0 then some ((-9223372036854775808 : Int64), q6) else ((f_Mo_clears (87 : Int32) q6).bind fun q8 => ((f_Mo_adds (87 : Int32) ((67 : Int32) + p3) (1 : Int64) q8).bind fun q9 => ((f_Mo_canNow q9).bind fun q10 => (if q10.1 = 0 then some ((-9223372036854775808 : Int64), q10.2) else ((lp (fun s => b_Mo_both_55 p1 p2 p3 p4 (q9.2 157 16) s.1 s.2) 5000 ((0 : Int32), q10.2)).bind fun e17 => ((f_Mo_told (87 : Int32) ((q9.2 157 16) * (e17.2 157 16)) p4 e17).bind fun q18 => some (q18, e17))))))))))))))
theorem e_Mo_both {Lx : Nat} (p0 : Int32) (p1 : Int32) (p2 : Int32) (p3 : Int32) (p4 : Int32)  (g : M2) {b : (Int64 × M2)} (h : f_Mo_both p0 p1 p2 p3 p4 g = some b) : Ev Lx 275 cd_275 0 [some (.ref 157), some (.int p0), some (.int p1), some (.int p2), some (.int p3), some (.int p4)] [] g (some (.long b.1), b.2) := by
  unfold f_Mo_both at h
  refine ev_rn (n := 1) (i2 := 1) (L2 := [some (.ref 157), some (.int p0), some (.int p1), some (.int p2), some (.int p3), some (.int p4)]) (st2 := [.int p0]) (g2 := g) cdE_275 rfl ?_
  refine ev_call rfl cdE_73 rfl rfl rfl (e_Mo_isDirection p0  g rfl) ?_
  by_cases hc1 : (f_Mo_isDirection p0 g) = 0
  · rw [if_pos hc1] at h
    refine ev_zft cdE_275 rfl (cn_t hc1) ?_
    refine ev_rn (n := 1) (i2 := 25) (L2 := [some (.ref 157), some (.int p0), some (.int p1), some (.int p2), some (.int p3), some (.int p4)]) (st2 := [.long (-9223372036854775808 : Int64)]) (g2 := g) cdE_275 rfl ?_
    cases h
    exact ev_ret rfl rfl
  · rw [if_neg hc1] at h
    refine ev_zff rfl (cn_f hc1) ?_
    refine ev_rn (n := 4) (i2 := 7) (L2 := [some (.ref 157), some (.int p0), some (.int p1), some (.int p2), some (.int p3), some (.int p4)]) (st2 := [.long (9 : Int64), .long (-9 : Int64), .long p1.toInt64]) (g2 := g) cdE_275 rfl ?_
    refine ev_call rfl cdE_16 rfl rfl rfl (e_Mo_in p1.toInt64 (-9 : Int64) (9 : Int64)  g rfl) ?_
    by_cases hc2 : (f_Mo_in p1.toInt64 (-9 : Int64) (9 : Int64) g) = 0
    · rw [if_pos hc2] at h
      refine ev_zft cdE_275 rfl (cn_t hc2) ?_
      refine ev_rn (n := 1) (i2 := 25) (L2 := [some (.ref 157), some (.int p0), some (.int p1), some (.int p2), some (.int p3), some (.int p4)]) (st2 := [.long (-9223372036854775808 : Int64)]) (g2 := g) cdE_275 rfl ?_
      cases h
      exact ev_ret rfl rfl
    · rw [if_neg hc2] at h
      refine ev_zff rfl (cn_f hc2) ?_
      refine ev_rn (n := 4) (i2 := 13) (L2 := [some (.ref 157), some (.int p0), some (.int p1), some (.int p2), some (.int p3), some (.int p4)]) (st2 := [.long (9 : Int64), .long (-9 : Int64), .long p2.toInt64]) (g2 := g) cdE_275 rfl ?_
      refine ev_call rfl cdE_16 rfl rfl rfl (e_Mo_in p2.toInt64 (-9 : Int64) (9 : Int64)  g rfl) ?_
      by_cases hc3 : (f_Mo_in p2.toInt64 (-9 : Int64) (9 : Int64) g) = 0
      · rw [if_pos hc3] at h
        refine ev_zft cdE_275 rfl (cn_t hc3) ?_
        refine ev_rn (n := 1) (i2 := 25) (L2 := [some (.ref 157), some (.int p0), some (.int p1), some (.int p2), some (.int p3), some (.int p4)]) (st2 := [.long (-9223372036854775808 : Int64)]) (g2 := g) cdE_275 rfl ?_
        cases h
        exact ev_ret rfl rfl
      · rw [if_neg hc3] at h
        refine ev_zff rfl (cn_f hc3) ?_
        refine ev_rn (n := 1) (i2 := 16) (L2 := [some (.ref 157), some (.int p0), some (.int p1), some (.int p2), some (.int p3), some (.int p4)]) (st2 := [.int p3]) (g2 := g) cdE_275 rfl ?_
        refine ev_call rfl cdE_73 rfl rfl rfl (e_Mo_isDirection p3  g rfl) ?_
        by_cases hc4 : (f_Mo_isDirection p3 g) = 0
        · rw [if_pos hc4] at h
          refine ev_zft cdE_275 rfl (cn_t hc4) ?_
          refine ev_rn (n := 1) (i2 := 25) (L2 := [some (.ref 157), some (.int p0), some (.int p1), some (.int p2), some (.int p3), some (.int p4)]) (st2 := [.long (-9223372036854775808 : Int64)]) (g2 := g) cdE_275 rfl ?_
          cases h
          exact ev_ret rfl rfl
        · rw [if_neg hc4] at h
          refine ev_zff rfl (cn_f hc4) ?_
          refine ev_rn (n := 4) (i2 := 22) (L2 := [some (.ref 157), some (.int p0), some (.int p1), some (.int p2), some (.int p3), some (.int p4)]) (st2 := [.long (4 : Int64), .long (0 : Int64), .long p4.toInt64]) (g2 := g) cdE_275 rfl ?_
          refine ev_call rfl cdE_16 rfl rfl rfl (e_Mo_in p4.toInt64 (0 : Int64) (4 : Int64)  g rfl) ?_
          by_cases hc5 : (f_Mo_in p4.toInt64 (0 : Int64) (4 : Int64) g) = 0
          · rw [if_pos hc5] at h
            refine ev_zff rfl (cn_f (fun q => q hc5)) ?_
            refine ev_rn (n := 1) (i2 := 25) (L2 := [some (.ref 157), some (.int p0), some (.int p1), some (.int p2), some (.int p3), some (.int p4)]) (st2 := [.long (-9223372036854775808 : Int64)]) (g2 := g) cdE_275 rfl ?_
            cases h
            exact ev_ret rfl rfl
          · rw [if_neg hc5] at h
            refine ev_zft cdE_275 rfl (cn_t hc5) ?_
            refine ev_rn (n := 3) (i2 := 29) (L2 := [some (.ref 157), some (.int p0), some (.int p1), some (.int p2), some (.int p3), some (.int p4)]) (st2 := [.int p0, .int (0 : Int32), .ref 157]) (g2 := g) cdE_275 rfl ?_
            obtain ⟨q6, hq6, h⟩ := Option.bind_eq_some_iff.mp h
            refine ev_call rfl cdE_117 rfl rfl rfl (e_Mo_solvesWith (0 : Int32) p0  g hq6) ?_
            refine ev_rn (n := 2) (i2 := 32) (L2 := [some (.ref 157), some (.int p0), some (.int p1), some (.int p2), some (.int p3), some (.int p4)]) (st2 := [.int (q6.1 157 15)]) (g2 := q6) cdE_275 rfl ?_
            by_cases hc7 : (q6.1 157 15) = 0
            · rw [if_pos hc7] at h
              refine ev_zff rfl (cn_f (fun q => q hc7)) ?_
              refine ev_rn (n := 1) (i2 := 34) (L2 := [some (.ref 157), some (.int p0), some (.int p1), some (.int p2), some (.int p3), some (.int p4)]) (st2 := [.long (-9223372036854775808 : Int64)]) (g2 := q6) cdE_275 rfl ?_
              cases h
              exact ev_ret rfl rfl
            · rw [if_neg hc7] at h
              refine ev_zft cdE_275 rfl (cn_t hc7) ?_
              refine ev_rn (n := 2) (i2 := 37) (L2 := [some (.ref 157), some (.int p0), some (.int p1), some (.int p2), some (.int p3), some (.int p4)]) (st2 := [.int (87 : Int32), .ref 157]) (g2 := q6) cdE_275 rfl ?_
              obtain ⟨q8, hq8, h⟩ := Option.bind_eq_some_iff.mp h
              refine ev_call rfl cdE_104 rfl rfl rfl (e_Mo_clears (87 : Int32)  q6 hq8) ?_
              refine ev_rn (n := 6) (i2 := 44) (L2 := [some (.ref 157), some (.int p0), some (.int p1), some (.int p2), some (.int p3), some (.int p4)]) (st2 := [.long (1 : Int64), .int ((67 : Int32) + p3), .int (87 : Int32), .ref 157]) (g2 := q8) cdE_275 rfl ?_
              obtain ⟨q9, hq9, h⟩ := Option.bind_eq_some_iff.mp h
              refine ev_call rfl cdE_113 rfl rfl rfl (e_Mo_adds (87 : Int32) ((67 : Int32) + p3) (1 : Int64)  q8 hq9) ?_
              refine ev_rn (n := 3) (i2 := 48) (L2 := [some (.ref 157), some (.int p0), some (.int p1), some (.int p2), some (.int p3), some (.int p4), some (.long (q9.2 157 16)), none]) (st2 := []) (g2 := q9) cdE_275 rfl ?_
              refine ev_rn (n := 1) (i2 := 49) (L2 := [some (.ref 157), some (.int p0), some (.int p1), some (.int p2), some (.int p3), some (.int p4), some (.long (q9.2 157 16)), none]) (st2 := [.ref 157]) (g2 := q9) cdE_275 rfl ?_
              obtain ⟨q10, hq10, h⟩ := Option.bind_eq_some_iff.mp h
              refine ev_call rfl cdE_118 rfl rfl rfl (e_Mo_canNow   q9 hq10) ?_
              by_cases hc11 : q10.1 = 0
              · rw [if_pos hc11] at h
                refine ev_zff rfl (cn_f (fun q => q hc11)) ?_
                refine ev_rn (n := 1) (i2 := 52) (L2 := [some (.ref 157), some (.int p0), some (.int p1), some (.int p2), some (.int p3), some (.int p4), some (.long (q9.2 157 16)), none]) (st2 := [.long (-9223372036854775808 : Int64)]) (g2 := q10.2) cdE_275 rfl ?_
                cases h
                exact ev_ret rfl rfl
              · rw [if_neg hc11] at h
                refine ev_zft cdE_275 rfl (cn_t hc11) ?_
                refine ev_rn (n := 2) (i2 := 55) (L2 := [some (.ref 157), some (.int p0), some (.int p1), some (.int p2), some (.int p3), some (.int p4), some (.long (q9.2 157 16)), none, some (.int (0 : Int32))]) (st2 := []) (g2 := q10.2) cdE_275 rfl ?_
                obtain ⟨e17, he17, h⟩ := Option.bind_eq_some_iff.mp h
                have hX19 : Ev Lx 275 cd_275 90 [some (.ref 157), none, none, none, none, some (.int p4), some (.long (q9.2 157 16))] [] e17 (some (.long b.1), b.2) := by
                  refine ev_rn (n := 7) (i2 := 97) (L2 := [some (.ref 157), none, none, none, none, some (.int p4), some (.long (q9.2 157 16))]) (st2 := [.int p4, .long ((q9.2 157 16) * (e17.2 157 16)), .int (87 : Int32), .ref 157]) (g2 := e17) cdE_275 rfl ?_
                  obtain ⟨q18, hq18, h⟩ := Option.bind_eq_some_iff.mp h
                  refine ev_call rfl cdE_131 rfl rfl rfl (e_Mo_told (87 : Int32) ((q9.2 157 16) * (e17.2 157 16)) p4  e17 hq18) ?_
                  cases h
                  exact ev_ret rfl rfl
                exact ev_wk (L := [some (.ref 157), none, some (.int p1), some (.int p2), some (.int p3), some (.int p4), some (.long (q9.2 157 16)), none, some (.int (0 : Int32))]) (lp_ind (P := (fun (s : (Int32 × M2)) => Ev Lx 275 cd_275 55 [some (.ref 157), none, some (.int p1), some (.int p2), some (.int p3), some (.int p4), some (.long (q9.2 157 16)), none, some (.int s.1)] [] s.2 (some (.long b.1), b.2))) (fun s s2 hs hP => tb_Mo_both_55 p1 p2 p3 p4 (q9.2 157 16)  s.1 s.2 (b := .inl s2) hs hP) (fun s hs => tb_Mo_both_55 p1 p2 p3 p4 (q9.2 157 16)  s.1 s.2 (b := .inr e17) hs hX19) _ _ he17) ⟨rfl, ⟨rfl, ⟨rfl, ⟨rfl, ⟨rfl, ⟨rfl, ⟨rfl, trivial⟩⟩⟩⟩⟩⟩⟩
def f_Ou_write (p0 : Int32) (g : M2) : Option (M2) := (if (160 : Int32) ≤ (g.1 153 1) then some g else (if inb (g.1 153 1) 160 then (bd (uI g 154 (g.1 153 1).toNatClampNeg p0) fun g2 => (bd (uI g2 153 1 ((g2.1 153 1) + (1 : Int32))) fun g3 => some g3)) else none))
theorem e_Ou_write {Lx : Nat} (p0 : Int32)  (g : M2) {b : M2} (h : f_Ou_write p0 g = some b) : Ev Lx 276 cd_276 0 [some (.ref 153), some (.int p0)] [] g (none, b) := by
  unfold f_Ou_write at h
  refine ev_rn (n := 3) (i2 := 3) (L2 := [some (.ref 153), some (.int p0)]) (st2 := [.int (160 : Int32), .int (g.1 153 1)]) (g2 := g) cdE_276 rfl ?_
  by_cases hc1 : (160 : Int32) ≤ (g.1 153 1)
  · rw [if_pos hc1] at h
    refine ev_ift cdE_276 rfl (cn_t hc1) ?_
    cases h
    exact ev_ret rfl rfl
  · rw [if_neg hc1] at h
    refine ev_iff rfl (cn_f hc1) ?_
    refine ev_rn (n := 5) (i2 := 9) (L2 := [some (.ref 153), some (.int p0)]) (st2 := [.int p0, .int (g.1 153 1), .ref 154]) (g2 := g) cdE_276 rfl ?_
    by_cases hi4 : inb (g.1 153 1) 160
    · rw [if_pos hi4] at h
      refine bd_elim h (fun g2 hg2 h => ?_)
      refine ev_iastore (g2 := g2) rfl (show S0[154]? = some (100, 160, List.replicate 160 none) from rfl) (by decide) hi4 (by rw [hg2] <;> rfl) ?_
      refine ev_rn (n := 5) (i2 := 15) (L2 := [some (.ref 153), some (.int p0)]) (st2 := [.int ((g2.1 153 1) + (1 : Int32)), .ref 153]) (g2 := g2) cdE_276 rfl ?_
      refine bd_elim h (fun g3 hg3 h => ?_)
      refine ev_pf (g2 := g3) rfl (rfl : S0[153]? = some _) (by decide) (by rw [hg3] <;> rfl) ?_
      cases h
      exact ev_ret rfl rfl
    · rw [if_neg hi4] at h
      cases h
def b_Ou_writeNumber_4 (v1 : Int64) (v3 : Int64) (v5 : Int32) (g : M2) : Option ((Int64 × Int32) ⊕ Int64) := (if (18 : Int32) ≤ v5 then some (.inr v3) else (if (v1 / (10 : Int64)) < v3 then some (.inr v3) else some (.inl ((v3 * (10 : Int64)), (v5 + (1 : Int32))))))
theorem tb_Ou_writeNumber_4 {Lx : Nat} (v1 : Int64)  (v3 : Int64) (v5 : Int32) (g : M2) {b : (Int64 × Int32) ⊕ Int64} {o : Option Value × M2} (h : b_Ou_writeNumber_4 v1 v3 v5 g = some b) (hb : Sum.elim (fun s => Ev Lx 277 cd_277 4 [some (.ref 153), some (.long v1), none, some (.long s.1), none, some (.int s.2)] [] g o) (fun e => Ev Lx 277 cd_277 19 [some (.ref 153), some (.long v1), none, some (.long e)] [] g o) b) : Ev Lx 277 cd_277 4 [some (.ref 153), some (.long v1), none, some (.long v3), none, some (.int v5)] [] g o := by
  unfold b_Ou_writeNumber_4 at h
  refine ev_rn (n := 2) (i2 := 6) (L2 := [some (.ref 153), some (.long v1), none, some (.long v3), none, some (.int v5)]) (st2 := [.int (18 : Int32), .int v5]) (g2 := g) cdE_277 rfl ?_
  by_cases hc1 : (18 : Int32) ≤ v5
  · rw [if_pos hc1] at h
    refine ev_ift cdE_277 rfl (cn_t hc1) ?_
    cases h
    exact ev_wk (L := [some (.ref 153), some (.long v1), none, some (.long v3)]) hb ⟨rfl, ⟨rfl, ⟨rfl, trivial⟩⟩⟩
  · rw [if_neg hc1] at h
    refine ev_iff rfl (cn_f hc1) ?_
    refine ev_rn (n := 3) (i2 := 10) (L2 := [some (.ref 153), some (.long v1), none, some (.long v3), none, some (.int v5)]) (st2 := [.long (10 : Int64), .long v1, .long v3]) (g2 := g) cdE_277 rfl ?_
    refine ev_ldiv rfl (by decide) ?_
    refine ev_rn (n := 1) (i2 := 12) (L2 := [some (.ref 153), some (.long v1), none, some (.long v3), none, some (.int v5)]) (st2 := [.int (lg_cmp v3 (v1 / (10 : Int64)))]) (g2 := g) cdE_277 rfl ?_
    by_cases hc2 : (v1 / (10 : Int64)) < v3
    · rw [if_pos hc2] at h
      refine ev_zft cdE_277 rfl (lc_gt_t hc2) ?_
      cases h
      exact ev_wk (L := [some (.ref 153), some (.long v1), none, some (.long v3)]) hb ⟨rfl, ⟨rfl, ⟨rfl, trivial⟩⟩⟩
    · rw [if_neg hc2] at h
      refine ev_zff rfl (lc_gt_f hc2) ?_
      refine ev_rn (n := 4) (i2 := 17) (L2 := [some (.ref 153), some (.long v1), none, some (.long (v3 * (10 : Int64))), none, some (.int v5)]) (st2 := []) (g2 := g) cdE_277 rfl ?_
      refine ev_rn (n := 2) (i2 := 4) (L2 := [some (.ref 153), some (.long v1), none, some (.long (v3 * (10 : Int64))), none, some (.int (v5 + (1 : Int32)))]) (st2 := []) (g2 := g) cdE_277 rfl ?_
      cases h
      exact ev_wk (L := [some (.ref 153), some (.long v1), none, some (.long (v3 * (10 : Int64))), none, some (.int (v5 + (1 : Int32)))]) hb ⟨rfl, ⟨rfl, ⟨rfl, ⟨rfl, trivial⟩⟩⟩⟩
def b_Ou_writeNumber_21 (v1 : Int64) (v3 : Int64) (v5 : Int32) (g : M2) : Option ((Int64 × Int32 × M2) ⊕ M2) := (if (19 : Int32) ≤ v5 then some (.inr g) else (if v3 ≤ (0 : Int64) then some (.inr g) else (if v3 = 0 then none else ((f_Ou_write ((48 : Int64) + ((v1 / v3) - (v1 / v3) / (10 : Int64) * (10 : Int64))).toInt32 g).bind fun q6 => some (.inl ((v3 / (10 : Int64)), (v5 + (1 : Int32)), q6))))))
theorem tb_Ou_writeNumber_21 {Lx : Nat} (v1 : Int64)  (v3 : Int64) (v5 : Int32) (g : M2) {b : (Int64 × Int32 × M2) ⊕ M2} {o : Option Value × M2} (h : b_Ou_writeNumber_21 v1 v3 v5 g = some b) (hb : Sum.elim (fun s => Ev Lx 277 cd_277 21 [some (.ref 153), some (.long v1), none, some (.long s.1), none, some (.int s.2.1)] [] s.2.2 o) (fun e => Ev Lx 277 cd_277 44 [] [] e o) b) : Ev Lx 277 cd_277 21 [some (.ref 153), some (.long v1), none, some (.long v3), none, some (.int v5)] [] g o := by
  unfold b_Ou_writeNumber_21 at h
  refine ev_rn (n := 2) (i2 := 23) (L2 := [some (.ref 153), some (.long v1), none, some (.long v3), none, some (.int v5)]) (st2 := [.int (19 : Int32), .int v5]) (g2 := g) cdE_277 rfl ?_
  by_cases hc4 : (19 : Int32) ≤ v5
  · rw [if_pos hc4] at h
    refine ev_ift cdE_277 rfl (cn_t hc4) ?_
    cases h
    exact ev_wk (L := []) hb trivial
  · rw [if_neg hc4] at h
    refine ev_iff rfl (cn_f hc4) ?_
    refine ev_rn (n := 3) (i2 := 27) (L2 := [some (.ref 153), some (.long v1), none, some (.long v3), none, some (.int v5)]) (st2 := [.int (lg_cmp v3 (0 : Int64))]) (g2 := g) cdE_277 rfl ?_
    by_cases hc5 : v3 ≤ (0 : Int64)
    · rw [if_pos hc5] at h
      refine ev_zft cdE_277 rfl (lc_le_t hc5) ?_
      cases h
      exact ev_wk (L := []) hb trivial
    · rw [if_neg hc5] at h
      refine ev_zff rfl (lc_le_f hc5) ?_
      refine ev_rn (n := 4) (i2 := 32) (L2 := [some (.ref 153), some (.long v1), none, some (.long v3), none, some (.int v5)]) (st2 := [.long v3, .long v1, .long (48 : Int64), .ref 153]) (g2 := g) cdE_277 rfl ?_
      by_cases hd7 : v3 = 0
      · rw [if_pos hd7] at h
        cases h
      · rw [if_neg hd7] at h
        refine ev_ldiv rfl hd7 ?_
        refine ev_rn (n := 1) (i2 := 34) (L2 := [some (.ref 153), some (.long v1), none, some (.long v3), none, some (.int v5)]) (st2 := [.long (10 : Int64), .long (v1 / v3), .long (48 : Int64), .ref 153]) (g2 := g) cdE_277 rfl ?_
        refine ev_lrem rfl (by decide) ?_
        refine ev_rn (n := 2) (i2 := 37) (L2 := [some (.ref 153), some (.long v1), none, some (.long v3), none, some (.int v5)]) (st2 := [.int ((48 : Int64) + ((v1 / v3) - (v1 / v3) / (10 : Int64) * (10 : Int64))).toInt32, .ref 153]) (g2 := g) cdE_277 rfl ?_
        obtain ⟨q6, hq6, h⟩ := Option.bind_eq_some_iff.mp h
        refine ev_call rfl cdE_276 rfl rfl rfl (e_Ou_write ((48 : Int64) + ((v1 / v3) - (v1 / v3) / (10 : Int64) * (10 : Int64))).toInt32  g hq6) ?_
        refine ev_rn (n := 2) (i2 := 40) (L2 := [some (.ref 153), some (.long v1), none, some (.long v3), none, some (.int v5)]) (st2 := [.long (10 : Int64), .long v3]) (g2 := q6) cdE_277 rfl ?_
        refine ev_ldiv rfl (by decide) ?_
        refine ev_rn (n := 1) (i2 := 42) (L2 := [some (.ref 153), some (.long v1), none, some (.long (v3 / (10 : Int64))), none, some (.int v5)]) (st2 := []) (g2 := q6) cdE_277 rfl ?_
        refine ev_rn (n := 2) (i2 := 21) (L2 := [some (.ref 153), some (.long v1), none, some (.long (v3 / (10 : Int64))), none, some (.int (v5 + (1 : Int32)))]) (st2 := []) (g2 := q6) cdE_277 rfl ?_
        cases h
        exact ev_wk (L := [some (.ref 153), some (.long v1), none, some (.long (v3 / (10 : Int64))), none, some (.int (v5 + (1 : Int32)))]) hb ⟨rfl, ⟨rfl, ⟨rfl, ⟨rfl, trivial⟩⟩⟩⟩
def j_Ou_writeNumber_19 (v1 : Int64) (v3 : Int64) (g : M2) : Option (M2) := ((lp (fun s => b_Ou_writeNumber_21 v1 s.1 s.2.1 s.2.2) 5000 (v3, (0 : Int32), g)).bind fun e8 => some e8)
theorem tj_Ou_writeNumber_19 {Lx : Nat}  (v1 : Int64) (v3 : Int64)  (g : M2) {b : M2} (h : j_Ou_writeNumber_19 v1 v3 g = some b) : Ev Lx 277 cd_277 19 [some (.ref 153), some (.long v1), none, some (.long v3)] [] g (none, b) := by
  unfold j_Ou_writeNumber_19 at h
  refine ev_rn (n := 2) (i2 := 21) (L2 := [some (.ref 153), some (.long v1), none, some (.long v3), none, some (.int (0 : Int32))]) (st2 := []) (g2 := g) cdE_277 rfl ?_
  obtain ⟨e8, he8, h⟩ := Option.bind_eq_some_iff.mp h
  have hX9 : Ev Lx 277 cd_277 44 [] [] e8 (none, b) := by
    cases h
    exact ev_ret rfl rfl
  exact ev_wk (L := [some (.ref 153), some (.long v1), none, some (.long v3), none, some (.int (0 : Int32))]) (lp_ind (P := (fun (s : (Int64 × Int32 × M2)) => Ev Lx 277 cd_277 21 [some (.ref 153), some (.long v1), none, some (.long s.1), none, some (.int s.2.1)] [] s.2.2 (none, b))) (fun s s2 hs hP => tb_Ou_writeNumber_21 v1  s.1 s.2.1 s.2.2 (b := .inl s2) hs hP) (fun s hs => tb_Ou_writeNumber_21 v1  s.1 s.2.1 s.2.2 (b := .inr e8) hs hX9) _ _ he8) ⟨rfl, ⟨rfl, ⟨rfl, ⟨rfl, trivial⟩⟩⟩⟩
def f_Ou_writeNumber (p0 : Int64) (g : M2) : Option (M2) := ((lp (fun s => b_Ou_writeNumber_4 p0 s.1 s.2 g) 5000 ((1 : Int64), (0 : Int32))).bind fun e3 => (j_Ou_writeNumber_19 p0 e3 g))
theorem e_Ou_writeNumber {Lx : Nat} (p0 : Int64)  (g : M2) {b : M2} (h : f_Ou_writeNumber p0 g = some b) : Ev Lx 277 cd_277 0 [some (.ref 153), some (.long p0), none] [] g (none, b) := by
  unfold f_Ou_writeNumber at h
  refine ev_rn (n := 2) (i2 := 2) (L2 := [some (.ref 153), some (.long p0), none, some (.long (1 : Int64)), none]) (st2 := []) (g2 := g) cdE_277 rfl ?_
  refine ev_rn (n := 2) (i2 := 4) (L2 := [some (.ref 153), some (.long p0), none, some (.long (1 : Int64)), none, some (.int (0 : Int32))]) (st2 := []) (g2 := g) cdE_277 rfl ?_
  obtain ⟨e3, he3, h⟩ := Option.bind_eq_some_iff.mp h
  have hX10 : Ev Lx 277 cd_277 19 [some (.ref 153), some (.long p0), none, some (.long e3)] [] g (none, b) := by
    exact ev_wk (L := [some (.ref 153), some (.long p0), none, some (.long e3)]) (tj_Ou_writeNumber_19  p0 e3  g h) ⟨rfl, ⟨rfl, ⟨rfl, trivial⟩⟩⟩
  exact ev_wk (L := [some (.ref 153), some (.long p0), none, some (.long (1 : Int64)), none, some (.int (0 : Int32))]) (lp_ind (P := (fun (s : (Int64 × Int32)) => Ev Lx 277 cd_277 4 [some (.ref 153), some (.long p0), none, some (.long s.1), none, some (.int s.2)] [] g (none, b))) (fun s s2 hs hP => tb_Ou_writeNumber_4 p0  s.1 s.2 g (b := .inl s2) hs hP) (fun s hs => tb_Ou_writeNumber_4 p0  s.1 s.2 g (b := .inr e3) hs hX10) _ _ he3) ⟨rfl, ⟨rfl, ⟨rfl, ⟨rfl, trivial⟩⟩⟩⟩
def b_Ou_writePart_32 (v3 : Int32) (v4 : Int32) (g : M2) : Option ((Int32 × M2) ⊕ M2) := (if v3 ≤ v4 then some (.inr g) else ((f_Ou_write (122 : Int32) g).bind fun q7 => some (.inl ((v4 + (1 : Int32)), q7))))
theorem tb_Ou_writePart_32 {Lx : Nat} (v3 : Int32)  (v4 : Int32) (g : M2) {b : (Int32 × M2) ⊕ M2} {o : Option Value × M2} (h : b_Ou_writePart_32 v3 v4 g = some b) (hb : Sum.elim (fun s => Ev Lx 278 cd_278 32 [some (.ref 153), none, none, some (.int v3), some (.int s.1)] [] s.2 o) (fun e => Ev Lx 278 cd_278 40 [] [] e o) b) : Ev Lx 278 cd_278 32 [some (.ref 153), none, none, some (.int v3), some (.int v4)] [] g o := by
  unfold b_Ou_writePart_32 at h
  refine ev_rn (n := 2) (i2 := 34) (L2 := [some (.ref 153), none, none, some (.int v3), some (.int v4)]) (st2 := [.int v3, .int v4]) (g2 := g) cdE_278 rfl ?_
  by_cases hc6 : v3 ≤ v4
  · rw [if_pos hc6] at h
    refine ev_ift cdE_278 rfl (cn_t hc6) ?_
    cases h
    exact ev_wk (L := []) hb trivial
  · rw [if_neg hc6] at h
    refine ev_iff rfl (cn_f hc6) ?_
    refine ev_rn (n := 2) (i2 := 37) (L2 := [some (.ref 153), none, none, some (.int v3), some (.int v4)]) (st2 := [.int (122 : Int32), .ref 153]) (g2 := g) cdE_278 rfl ?_
    obtain ⟨q7, hq7, h⟩ := Option.bind_eq_some_iff.mp h
    refine ev_call rfl cdE_276 rfl rfl rfl (e_Ou_write (122 : Int32)  g hq7) ?_
    refine ev_rn (n := 2) (i2 := 32) (L2 := [some (.ref 153), none, none, some (.int v3), some (.int (v4 + (1 : Int32)))]) (st2 := []) (g2 := q7) cdE_278 rfl ?_
    cases h
    exact ev_wk (L := [some (.ref 153), none, none, some (.int v3), some (.int (v4 + (1 : Int32)))]) hb ⟨rfl, ⟨rfl, ⟨rfl, trivial⟩⟩⟩
def j_Ou_writePart_30 (v3 : Int32) (g : M2) : Option (M2) := ((lp (fun s => b_Ou_writePart_32 v3 s.1 s.2) 5000 ((0 : Int32), g)).bind fun e8 => some e8)
theorem tj_Ou_writePart_30 {Lx : Nat}  (v3 : Int32)  (g : M2) {b : M2} (h : j_Ou_writePart_30 v3 g = some b) : Ev Lx 278 cd_278 30 [some (.ref 153), none, none, some (.int v3)] [] g (none, b) := by
  unfold j_Ou_writePart_30 at h
  refine ev_rn (n := 2) (i2 := 32) (L2 := [some (.ref 153), none, none, some (.int v3), some (.int (0 : Int32))]) (st2 := []) (g2 := g) cdE_278 rfl ?_
  obtain ⟨e8, he8, h⟩ := Option.bind_eq_some_iff.mp h
  have hX9 : Ev Lx 278 cd_278 40 [] [] e8 (none, b) := by
    cases h
    exact ev_ret rfl rfl
  exact ev_wk (L := [some (.ref 153), none, none, some (.int v3), some (.int (0 : Int32))]) (lp_ind (P := (fun (s : (Int32 × M2)) => Ev Lx 278 cd_278 32 [some (.ref 153), none, none, some (.int v3), some (.int s.1)] [] s.2 (none, b))) (fun s s2 hs hP => tb_Ou_writePart_32 v3  s.1 s.2 (b := .inl s2) hs hP) (fun s hs => tb_Ou_writePart_32 v3  s.1 s.2 (b := .inr e8) hs hX9) _ _ he8) ⟨rfl, ⟨rfl, ⟨rfl, trivial⟩⟩⟩
def j_Ou_writePart_26 (v1 : Int64) (v3 : Int32) (g : M2) : Option (M2) := ((f_Ou_writeNumber (f_Ma_abs v1 g) g).bind fun q5 => (j_Ou_writePart_30 v3 q5))
theorem tj_Ou_writePart_26 {Lx : Nat}  (v1 : Int64) (v3 : Int32)  (g : M2) {b : M2} (h : j_Ou_writePart_26 v1 v3 g = some b) : Ev Lx 278 cd_278 26 [some (.ref 153), some (.long v1), none, some (.int v3)] [] g (none, b) := by
  unfold j_Ou_writePart_26 at h
  refine ev_rn (n := 2) (i2 := 28) (L2 := [some (.ref 153), some (.long v1), none, some (.int v3)]) (st2 := [.long v1, .ref 153]) (g2 := g) cdE_278 rfl ?_
  refine ev_call rfl cdE_125 rfl rfl rfl (e_Ma_abs v1  g rfl) ?_
  obtain ⟨q5, hq5, h⟩ := Option.bind_eq_some_iff.mp h
  refine ev_call rfl cdE_277 rfl rfl rfl (e_Ou_writeNumber (f_Ma_abs v1 g)  g hq5) ?_
  exact ev_wk (L := [some (.ref 153), none, none, some (.int v3)]) (tj_Ou_writePart_30  v3  q5 h) ⟨rfl, ⟨rfl, trivial⟩⟩
def j_Ou_writePart_19 (v1 : Int64) (v3 : Int32) (g : M2) : Option (M2) := (if v3 = 0 then (j_Ou_writePart_26 v1 v3 g) else (if (f_Ma_abs v1 g) = (1 : Int64) then (j_Ou_writePart_30 v3 g) else (j_Ou_writePart_26 v1 v3 g)))
theorem tj_Ou_writePart_19 {Lx : Nat}  (v1 : Int64) (v3 : Int32)  (g : M2) {b : M2} (h : j_Ou_writePart_19 v1 v3 g = some b) : Ev Lx 278 cd_278 19 [some (.ref 153), some (.long v1), none, some (.int v3)] [] g (none, b) := by
  unfold j_Ou_writePart_19 at h
  refine ev_rn (n := 1) (i2 := 20) (L2 := [some (.ref 153), some (.long v1), none, some (.int v3)]) (st2 := [.int v3]) (g2 := g) cdE_278 rfl ?_
  by_cases hc4 : v3 = 0
  · rw [if_pos hc4] at h
    refine ev_zft cdE_278 rfl (cn_t hc4) ?_
    exact ev_wk (L := [some (.ref 153), some (.long v1), none, some (.int v3)]) (tj_Ou_writePart_26  v1 v3  g h) ⟨rfl, ⟨rfl, ⟨rfl, trivial⟩⟩⟩
  · rw [if_neg hc4] at h
    refine ev_zff rfl (cn_f hc4) ?_
    refine ev_rn (n := 1) (i2 := 22) (L2 := [some (.ref 153), some (.long v1), none, some (.int v3)]) (st2 := [.long v1]) (g2 := g) cdE_278 rfl ?_
    refine ev_call rfl cdE_125 rfl rfl rfl (e_Ma_abs v1  g rfl) ?_
    refine ev_rn (n := 2) (i2 := 25) (L2 := [some (.ref 153), some (.long v1), none, some (.int v3)]) (st2 := [.int (lg_cmp (f_Ma_abs v1 g) (1 : Int64))]) (g2 := g) cdE_278 rfl ?_
    by_cases hc10 : (f_Ma_abs v1 g) = (1 : Int64)
    · rw [if_pos hc10] at h
      refine ev_zft cdE_278 rfl (lc_eq_t hc10) ?_
      exact ev_wk (L := [some (.ref 153), none, none, some (.int v3)]) (tj_Ou_writePart_30  v3  g h) ⟨rfl, ⟨rfl, trivial⟩⟩
    · rw [if_neg hc10] at h
      refine ev_zff rfl (lc_eq_f hc10) ?_
      exact ev_wk (L := [some (.ref 153), some (.long v1), none, some (.int v3)]) (tj_Ou_writePart_26  v1 v3  g h) ⟨rfl, ⟨rfl, ⟨rfl, trivial⟩⟩⟩
def f_Ou_writePart (p0 : Int64) (p1 : Int32) (g : M2) : Option (M2) := (if p0 = (0 : Int64) then some g else (if (0 : Int64) ≤ p0 then (if (g.1 153 1) ≤ 0 then (j_Ou_writePart_19 p0 p1 g) else ((f_Ou_write (43 : Int32) g).bind fun q11 => (j_Ou_writePart_19 p0 p1 q11))) else ((f_Ou_write (45 : Int32) g).bind fun q12 => (j_Ou_writePart_19 p0 p1 q12))))
theorem e_Ou_writePart {Lx : Nat} (p0 : Int64) (p1 : Int32)  (g : M2) {b : M2} (h : f_Ou_writePart p0 p1 g = some b) : Ev Lx 278 cd_278 0 [some (.ref 153), some (.long p0), none, some (.int p1)] [] g (none, b) := by
  unfold f_Ou_writePart at h
  refine ev_rn (n := 3) (i2 := 3) (L2 := [some (.ref 153), some (.long p0), none, some (.int p1)]) (st2 := [.int (lg_cmp p0 (0 : Int64))]) (g2 := g) cdE_278 rfl ?_
  by_cases hc1 : p0 = (0 : Int64)
  · rw [if_pos hc1] at h
    refine ev_zff rfl (lc_ne_f hc1) ?_
    cases h
    exact ev_ret rfl rfl
  · rw [if_neg hc1] at h
    refine ev_zft cdE_278 rfl (lc_ne_t hc1) ?_
    refine ev_rn (n := 3) (i2 := 8) (L2 := [some (.ref 153), some (.long p0), none, some (.int p1)]) (st2 := [.int (lg_cmp p0 (0 : Int64))]) (g2 := g) cdE_278 rfl ?_
    by_cases hc2 : (0 : Int64) ≤ p0
    · rw [if_pos hc2] at h
      refine ev_zft cdE_278 rfl (lc_ge_t hc2) ?_
      refine ev_rn (n := 2) (i2 := 15) (L2 := [some (.ref 153), some (.long p0), none, some (.int p1)]) (st2 := [.int (g.1 153 1)]) (g2 := g) cdE_278 rfl ?_
      by_cases hc3 : (g.1 153 1) ≤ 0
      · rw [if_pos hc3] at h
        refine ev_zft cdE_278 rfl (cn_t hc3) ?_
        exact ev_wk (L := [some (.ref 153), some (.long p0), none, some (.int p1)]) (tj_Ou_writePart_19  p0 p1  g h) ⟨rfl, ⟨rfl, ⟨rfl, trivial⟩⟩⟩
      · rw [if_neg hc3] at h
        refine ev_zff rfl (cn_f hc3) ?_
        refine ev_rn (n := 2) (i2 := 18) (L2 := [some (.ref 153), some (.long p0), none, some (.int p1)]) (st2 := [.int (43 : Int32), .ref 153]) (g2 := g) cdE_278 rfl ?_
        obtain ⟨q11, hq11, h⟩ := Option.bind_eq_some_iff.mp h
        refine ev_call rfl cdE_276 rfl rfl rfl (e_Ou_write (43 : Int32)  g hq11) ?_
        exact ev_wk (L := [some (.ref 153), some (.long p0), none, some (.int p1)]) (tj_Ou_writePart_19  p0 p1  q11 h) ⟨rfl, ⟨rfl, ⟨rfl, trivial⟩⟩⟩
    · rw [if_neg hc2] at h
      refine ev_zff rfl (lc_ge_f hc2) ?_
      refine ev_rn (n := 2) (i2 := 11) (L2 := [some (.ref 153), some (.long p0), none, some (.int p1)]) (st2 := [.int (45 : Int32), .ref 153]) (g2 := g) cdE_278 rfl ?_
      obtain ⟨q12, hq12, h⟩ := Option.bind_eq_some_iff.mp h
      refine ev_call rfl cdE_276 rfl rfl rfl (e_Ou_write (45 : Int32)  g hq12) ?_
      refine ev_rn (n := 1) (i2 := 19) (L2 := [some (.ref 153), some (.long p0), none, some (.int p1)]) (st2 := []) (g2 := q12) cdE_278 rfl ?_
      exact ev_wk (L := [some (.ref 153), some (.long p0), none, some (.int p1)]) (tj_Ou_writePart_19  p0 p1  q12 h) ⟨rfl, ⟨rfl, ⟨rfl, trivial⟩⟩⟩
def b_Ou_writeFraction_5  (v2 : Int32) (g : M2) : Option ((Int32 × M2) ⊕ M2) := (if (4 : Int32) ≤ v2 then some (.inr g) else (if (5 : Int32) ≤ v2 then some (.inr g) else (if inb v2 5 then ((f_Ou_writePart (g.2 156 v2.toNatClampNeg) v2 g).bind fun q5 => some (.inl ((v2 + (1 : Int32)), q5))) else none)))
theorem tb_Ou_writeFraction_5 {Lx : Nat}   (v2 : Int32) (g : M2) {b : (Int32 × M2) ⊕ M2} {o : Option Value × M2} (h : b_Ou_writeFraction_5 v2 g = some b) (hb : Sum.elim (fun s => Ev Lx 279 cd_279 5 [some (.ref 153), some (.ref 156), some (.int s.1)] [] s.2 o) (fun e => Ev Lx 279 cd_279 20 [some (.ref 153), some (.ref 156)] [] e o) b) : Ev Lx 279 cd_279 5 [some (.ref 153), some (.ref 156), some (.int v2)] [] g o := by
  unfold b_Ou_writeFraction_5 at h
  refine ev_rn (n := 2) (i2 := 7) (L2 := [some (.ref 153), some (.ref 156), some (.int v2)]) (st2 := [.int (4 : Int32), .int v2]) (g2 := g) cdE_279 rfl ?_
  by_cases hc2 : (4 : Int32) ≤ v2
  · rw [if_pos hc2] at h
    refine ev_ift cdE_279 rfl (cn_t hc2) ?_
    cases h
    exact ev_wk (L := [some (.ref 153), some (.ref 156)]) hb ⟨rfl, ⟨rfl, trivial⟩⟩
  · rw [if_neg hc2] at h
    refine ev_iff rfl (cn_f hc2) ?_
    refine ev_rn (n := 2) (i2 := 10) (L2 := [some (.ref 153), some (.ref 156), some (.int v2)]) (st2 := [.ref 156, .int v2]) (g2 := g) cdE_279 rfl ?_
    refine ev_len (N := 5) rfl (show S0[156]? = some (101, 5, List.replicate 5 none) from rfl) (by decide) ?_
    by_cases hc3 : (5 : Int32) ≤ v2
    · rw [if_pos hc3] at h
      refine ev_ift cdE_279 rfl (cn_t hc3) ?_
      cases h
      exact ev_wk (L := [some (.ref 153), some (.ref 156)]) hb ⟨rfl, ⟨rfl, trivial⟩⟩
    · rw [if_neg hc3] at h
      refine ev_iff rfl (cn_f hc3) ?_
      refine ev_rn (n := 3) (i2 := 15) (L2 := [some (.ref 153), some (.ref 156), some (.int v2)]) (st2 := [.int v2, .ref 156, .ref 153]) (g2 := g) cdE_279 rfl ?_
      by_cases hi4 : inb v2 5
      · rw [if_pos hi4] at h
        refine ev_laload (v := .long (g.2 156 v2.toNatClampNeg)) rfl (kd_of (show S0[156]? = some (101, 5, List.replicate 5 none) from rfl)) (by decide) hi4 rfl ?_
        refine ev_rn (n := 1) (i2 := 17) (L2 := [some (.ref 153), some (.ref 156), some (.int v2)]) (st2 := [.int v2, .long (g.2 156 v2.toNatClampNeg), .ref 153]) (g2 := g) cdE_279 rfl ?_
        obtain ⟨q5, hq5, h⟩ := Option.bind_eq_some_iff.mp h
        refine ev_call rfl cdE_278 rfl rfl rfl (e_Ou_writePart (g.2 156 v2.toNatClampNeg) v2  g hq5) ?_
        refine ev_rn (n := 2) (i2 := 5) (L2 := [some (.ref 153), some (.ref 156), some (.int (v2 + (1 : Int32)))]) (st2 := []) (g2 := q5) cdE_279 rfl ?_
        cases h
        exact ev_wk (L := [some (.ref 153), some (.ref 156), some (.int (v2 + (1 : Int32)))]) hb ⟨rfl, ⟨rfl, ⟨rfl, trivial⟩⟩⟩
      · rw [if_neg hi4] at h
        cases h
def j_Ou_writeFraction_26  (g : M2) : Option (M2) := (if (5 : Int32) ≤ (4 : Int32) then some g else (if (g.2 156 4) = (1 : Int64) then some g else ((f_Ou_write (47 : Int32) g).bind fun q10 => ((f_Ou_writeNumber (q10.2 156 4) q10).bind fun q11 => some q11))))
theorem tj_Ou_writeFraction_26 {Lx : Nat}    (g : M2) {b : M2} (h : j_Ou_writeFraction_26  g = some b) : Ev Lx 279 cd_279 26 [some (.ref 153), some (.ref 156)] [] g (none, b) := by
  unfold j_Ou_writeFraction_26 at h
  refine ev_rn (n := 1) (i2 := 27) (L2 := [some (.ref 153), some (.ref 156)]) (st2 := [.ref 156]) (g2 := g) cdE_279 rfl ?_
  refine ev_len (N := 5) rfl (show S0[156]? = some (101, 5, List.replicate 5 none) from rfl) (by decide) ?_
  refine ev_rn (n := 1) (i2 := 29) (L2 := [some (.ref 153), some (.ref 156)]) (st2 := [.int (4 : Int32), .int (5 : Int32)]) (g2 := g) cdE_279 rfl ?_
  by_cases hc8 : (5 : Int32) ≤ (4 : Int32)
  · rw [if_pos hc8] at h
    refine ev_ift cdE_279 rfl (cn_t hc8) ?_
    cases h
    exact ev_ret rfl rfl
  · rw [if_neg hc8] at h
    refine ev_iff rfl (cn_f hc8) ?_
    refine ev_rn (n := 2) (i2 := 32) (L2 := [some (.ref 153), some (.ref 156)]) (st2 := [.int (4 : Int32), .ref 156]) (g2 := g) cdE_279 rfl ?_
    refine ev_laload (v := .long (g.2 156 4)) rfl (kd_of (show S0[156]? = some (101, 5, List.replicate 5 none) from rfl)) (by decide) ⟨by decide, by decide⟩ rfl ?_
    refine ev_rn (n := 2) (i2 := 35) (L2 := [some (.ref 153), some (.ref 156)]) (st2 := [.int (lg_cmp (g.2 156 4) (1 : Int64))]) (g2 := g) cdE_279 rfl ?_
    by_cases hc9 : (g.2 156 4) = (1 : Int64)
    · rw [if_pos hc9] at h
      refine ev_zft cdE_279 rfl (lc_eq_t hc9) ?_
      cases h
      exact ev_ret rfl rfl
    · rw [if_neg hc9] at h
      refine ev_zff rfl (lc_eq_f hc9) ?_
      refine ev_rn (n := 2) (i2 := 38) (L2 := [some (.ref 153), some (.ref 156)]) (st2 := [.int (47 : Int32), .ref 153]) (g2 := g) cdE_279 rfl ?_
      obtain ⟨q10, hq10, h⟩ := Option.bind_eq_some_iff.mp h
      refine ev_call rfl cdE_276 rfl rfl rfl (e_Ou_write (47 : Int32)  g hq10) ?_
      refine ev_rn (n := 3) (i2 := 42) (L2 := [some (.ref 153), some (.ref 156)]) (st2 := [.int (4 : Int32), .ref 156, .ref 153]) (g2 := q10) cdE_279 rfl ?_
      refine ev_laload (v := .long (q10.2 156 4)) rfl (kd_of (show S0[156]? = some (101, 5, List.replicate 5 none) from rfl)) (by decide) ⟨by decide, by decide⟩ rfl ?_
      obtain ⟨q11, hq11, h⟩ := Option.bind_eq_some_iff.mp h
      refine ev_call rfl cdE_277 rfl rfl rfl (e_Ou_writeNumber (q10.2 156 4)  q10 hq11) ?_
      cases h
      exact ev_ret rfl rfl
def j_Ou_writeFraction_20  (g : M2) : Option (M2) := (if (g.1 153 1) = 0 then ((f_Ou_write (48 : Int32) g).bind fun q12 => (j_Ou_writeFraction_26  q12)) else (j_Ou_writeFraction_26  g))
theorem tj_Ou_writeFraction_20 {Lx : Nat}    (g : M2) {b : M2} (h : j_Ou_writeFraction_20  g = some b) : Ev Lx 279 cd_279 20 [some (.ref 153), some (.ref 156)] [] g (none, b) := by
  unfold j_Ou_writeFraction_20 at h
  refine ev_rn (n := 2) (i2 := 22) (L2 := [some (.ref 153), some (.ref 156)]) (st2 := [.int (g.1 153 1)]) (g2 := g) cdE_279 rfl ?_
  by_cases hc7 : (g.1 153 1) = 0
  · rw [if_pos hc7] at h
    refine ev_zff rfl (cn_f (fun q => q hc7)) ?_
    refine ev_rn (n := 2) (i2 := 25) (L2 := [some (.ref 153), some (.ref 156)]) (st2 := [.int (48 : Int32), .ref 153]) (g2 := g) cdE_279 rfl ?_
    obtain ⟨q12, hq12, h⟩ := Option.bind_eq_some_iff.mp h
    refine ev_call rfl cdE_276 rfl rfl rfl (e_Ou_write (48 : Int32)  g hq12) ?_
    exact ev_wk (L := [some (.ref 153), some (.ref 156)]) (tj_Ou_writeFraction_26    q12 h) ⟨rfl, ⟨rfl, trivial⟩⟩
  · rw [if_neg hc7] at h
    refine ev_zft cdE_279 rfl (cn_t hc7) ?_
    exact ev_wk (L := [some (.ref 153), some (.ref 156)]) (tj_Ou_writeFraction_26    g h) ⟨rfl, ⟨rfl, trivial⟩⟩
def f_Ou_writeFraction  (g : M2) : Option (M2) := (bd (uI g 153 1 (0 : Int32)) fun g1 => ((lp (fun s => b_Ou_writeFraction_5  s.1 s.2) 5000 ((0 : Int32), g1)).bind fun e6 => (j_Ou_writeFraction_20  e6)))
theorem e_Ou_writeFraction {Lx : Nat}   (g : M2) {b : M2} (h : f_Ou_writeFraction  g = some b) : Ev Lx 279 cd_279 0 [some (.ref 153), some (.ref 156)] [] g (none, b) := by
  unfold f_Ou_writeFraction at h
  refine ev_rn (n := 2) (i2 := 2) (L2 := [some (.ref 153), some (.ref 156)]) (st2 := [.int (0 : Int32), .ref 153]) (g2 := g) cdE_279 rfl ?_
  refine bd_elim h (fun g1 hg1 h => ?_)
  refine ev_pf (g2 := g1) rfl (rfl : S0[153]? = some _) (by decide) (by rw [hg1] <;> rfl) ?_
  refine ev_rn (n := 2) (i2 := 5) (L2 := [some (.ref 153), some (.ref 156), some (.int (0 : Int32))]) (st2 := []) (g2 := g1) cdE_279 rfl ?_
  obtain ⟨e6, he6, h⟩ := Option.bind_eq_some_iff.mp h
  have hX13 : Ev Lx 279 cd_279 20 [some (.ref 153), some (.ref 156)] [] e6 (none, b) := by
    exact ev_wk (L := [some (.ref 153), some (.ref 156)]) (tj_Ou_writeFraction_20    e6 h) ⟨rfl, ⟨rfl, trivial⟩⟩
  exact ev_wk (L := [some (.ref 153), some (.ref 156), some (.int (0 : Int32))]) (lp_ind (P := (fun (s : (Int32 × M2)) => Ev Lx 279 cd_279 5 [some (.ref 153), some (.ref 156), some (.int s.1)] [] s.2 (none, b))) (fun s s2 hs hP => tb_Ou_writeFraction_5   s.1 s.2 (b := .inl s2) hs hP) (fun s hs => tb_Ou_writeFraction_5   s.1 s.2 (b := .inr e6) hs hX13) _ _ he6) ⟨rfl, ⟨rfl, ⟨rfl, trivial⟩⟩⟩
def f_Da_tell (p0 : Int32) (g : M2) : Option (Int32 × M2) := ((f_Da_refresh g).bind fun q1 => (if (q1.1 6 13) = 0 then some ((-2 : Int32), q1) else (if (f_Pl_has 7 p0 q1) = 0 then some ((-2 : Int32), q1) else (if inb p0 5 then ((f_Da_bringToLowest (49 + 1 + p0.toNatClampNeg) (q1.2 6 16) q1).bind fun q5 => ((f_Ou_writeFraction q5).bind fun q6 => some ((q6.1 153 1), q6))) else none))))
theorem e_Da_tell {Lx : Nat} (p0 : Int32)  (g : M2) {b : (Int32 × M2)} (h : f_Da_tell p0 g = some b) : Ev Lx 280 cd_280 0 [some (.ref 0), some (.int p0)] [] g (some (.int b.1), b.2) := by
  unfold f_Da_tell at h
  refine ev_rn (n := 1) (i2 := 1) (L2 := [some (.ref 0), some (.int p0)]) (st2 := [.ref 0]) (g2 := g) cdE_280 rfl ?_
  obtain ⟨q1, hq1, h⟩ := Option.bind_eq_some_iff.mp h
  refine ev_call rfl cdE_100 rfl rfl rfl (e_Da_refresh   g hq1) ?_
  refine ev_rn (n := 3) (i2 := 5) (L2 := [some (.ref 0), some (.int p0)]) (st2 := [.int (q1.1 6 13)]) (g2 := q1) cdE_280 rfl ?_
  by_cases hc2 : (q1.1 6 13) = 0
  · rw [if_pos hc2] at h
    refine ev_zft cdE_280 rfl (cn_t hc2) ?_
    refine ev_rn (n := 1) (i2 := 13) (L2 := [some (.ref 0), some (.int p0)]) (st2 := [.int (-2 : Int32)]) (g2 := q1) cdE_280 rfl ?_
    cases h
    exact ev_ret rfl rfl
  · rw [if_neg hc2] at h
    refine ev_zff rfl (cn_f hc2) ?_
    refine ev_rn (n := 4) (i2 := 10) (L2 := [some (.ref 0), some (.int p0)]) (st2 := [.int p0, .ref 7]) (g2 := q1) cdE_280 rfl ?_
    refine ev_call rfl cdE_66 rfl rfl rfl (e_Pl_has 7 p0 (by decide) q1 rfl) ?_
    by_cases hc3 : (f_Pl_has 7 p0 q1) = 0
    · rw [if_pos hc3] at h
      refine ev_zff rfl (cn_f (fun q => q hc3)) ?_
      refine ev_rn (n := 1) (i2 := 13) (L2 := [some (.ref 0), some (.int p0)]) (st2 := [.int (-2 : Int32)]) (g2 := q1) cdE_280 rfl ?_
      cases h
      exact ev_ret rfl rfl
    · rw [if_neg hc3] at h
      refine ev_zft cdE_280 rfl (cn_t hc3) ?_
      refine ev_rn (n := 5) (i2 := 19) (L2 := [some (.ref 0), some (.int p0)]) (st2 := [.int p0, .ref 49, .ref 0]) (g2 := q1) cdE_280 rfl ?_
      by_cases hi4 : inb p0 5
      · rw [if_pos hi4] at h
        refine ev_aaload (v := .ref (49 + 1 + p0.toNatClampNeg)) rfl (kd_of (na_at (na_49))) (by decide) hi4 (na_rf (w := 49) hi4.2) ?_
        refine ev_rn (n := 3) (i2 := 23) (L2 := [some (.ref 0), some (.int p0)]) (st2 := [.long (q1.2 6 16), .ref (49 + 1 + p0.toNatClampNeg), .ref 0]) (g2 := q1) cdE_280 rfl ?_
        obtain ⟨q5, hq5, h⟩ := Option.bind_eq_some_iff.mp h
        refine ev_call rfl cdE_127 rfl rfl rfl (e_Da_bringToLowest (49 + 1 + p0.toNatClampNeg) (q1.2 6 16) (na_el (na_49) hi4.2) q1 hq5) ?_
        refine ev_rn (n := 4) (i2 := 28) (L2 := [some (.ref 0), some (.int p0)]) (st2 := [.ref 156, .ref 153]) (g2 := q5) cdE_280 rfl ?_
        obtain ⟨q6, hq6, h⟩ := Option.bind_eq_some_iff.mp h
        refine ev_call rfl cdE_279 rfl rfl rfl (e_Ou_writeFraction   q5 hq6) ?_
        refine ev_rn (n := 3) (i2 := 32) (L2 := [some (.ref 0), some (.int p0)]) (st2 := [.int (q6.1 153 1)]) (g2 := q6) cdE_280 rfl ?_
        cases h
        exact ev_ret rfl rfl
      · rw [if_neg hi4] at h
        cases h
def f_Mo_tells (p0 : Int32) (g : M2) : Option (M2) := (if inb (g.1 157 38) 200 then (bd (uI g 171 (g.1 157 38).toNatClampNeg p0.toInt8.toInt32.toInt8.toInt32) fun g1 => (bd (uI g1 157 38 ((g1.1 157 38) + (1 : Int32))) fun g2 => some g2)) else none)
theorem e_Mo_tells {Lx : Nat} (p0 : Int32)  (g : M2) {b : M2} (h : f_Mo_tells p0 g = some b) : Ev Lx 281 cd_281 0 [some (.ref 157), some (.int p0)] [] g (none, b) := by
  unfold f_Mo_tells at h
  refine ev_rn (n := 6) (i2 := 6) (L2 := [some (.ref 157), some (.int p0)]) (st2 := [.int p0.toInt8.toInt32, .int (g.1 157 38), .ref 171]) (g2 := g) cdE_281 rfl ?_
  by_cases hi3 : inb (g.1 157 38) 200
  · rw [if_pos hi3] at h
    refine bd_elim h (fun g1 hg1 h => ?_)
    refine ev_bastore (g2 := g1) rfl (show S0[171]? = some (102, 200, List.replicate 200 none) from rfl) (by decide) hi3 (by rw [hg1] <;> rfl) ?_
    refine ev_rn (n := 5) (i2 := 12) (L2 := [some (.ref 157), some (.int p0)]) (st2 := [.int ((g1.1 157 38) + (1 : Int32)), .ref 157]) (g2 := g1) cdE_281 rfl ?_
    refine bd_elim h (fun g2 hg2 h => ?_)
    refine ev_pf (g2 := g2) rfl (rfl : S0[157]? = some _) (by decide) (by rw [hg2] <;> rfl) ?_
    cases h
    exact ev_ret rfl rfl
  · rw [if_neg hi3] at h
    cases h
def b_Mo_tellsNumber_2 (v1 : Int64) (v3 : Int64) (g : M2) : Option (Int64 ⊕ Int64) := (if v3 = 0 then none else (if (v1 / v3) < (10 : Int64) then some (.inr v3) else some (.inl (v3 * (10 : Int64)))))
theorem tb_Mo_tellsNumber_2 {Lx : Nat} (v1 : Int64)  (v3 : Int64) (g : M2) {b : Int64 ⊕ Int64} {o : Option Value × M2} (h : b_Mo_tellsNumber_2 v1 v3 g = some b) (hb : Sum.elim (fun s => Ev Lx 282 cd_282 2 [some (.ref 157), some (.long v1), none, some (.long s)] [] g o) (fun e => Ev Lx 282 cd_282 13 [some (.ref 157), some (.long v1), none, some (.long e)] [] g o) b) : Ev Lx 282 cd_282 2 [some (.ref 157), some (.long v1), none, some (.long v3)] [] g o := by
  unfold b_Mo_tellsNumber_2 at h
  refine ev_rn (n := 2) (i2 := 4) (L2 := [some (.ref 157), some (.long v1), none, some (.long v3)]) (st2 := [.long v3, .long v1]) (g2 := g) cdE_282 rfl ?_
  by_cases hd2 : v3 = 0
  · rw [if_pos hd2] at h
    cases h
  · rw [if_neg hd2] at h
    refine ev_ldiv rfl hd2 ?_
    refine ev_rn (n := 2) (i2 := 7) (L2 := [some (.ref 157), some (.long v1), none, some (.long v3)]) (st2 := [.int (lg_cmp (v1 / v3) (10 : Int64))]) (g2 := g) cdE_282 rfl ?_
    by_cases hc1 : (v1 / v3) < (10 : Int64)
    · rw [if_pos hc1] at h
      refine ev_zft cdE_282 rfl (lc_lt_t hc1) ?_
      cases h
      exact ev_wk (L := [some (.ref 157), some (.long v1), none, some (.long v3)]) hb ⟨rfl, ⟨rfl, ⟨rfl, trivial⟩⟩⟩
    · rw [if_neg hc1] at h
      refine ev_zff rfl (lc_lt_f hc1) ?_
      refine ev_rn (n := 4) (i2 := 12) (L2 := [some (.ref 157), some (.long v1), none, some (.long (v3 * (10 : Int64))), none]) (st2 := []) (g2 := g) cdE_282 rfl ?_
      refine ev_rn (n := 1) (i2 := 2) (L2 := [some (.ref 157), some (.long v1), none, some (.long (v3 * (10 : Int64))), none]) (st2 := []) (g2 := g) cdE_282 rfl ?_
      cases h
      exact ev_wk (L := [some (.ref 157), some (.long v1), none, some (.long (v3 * (10 : Int64)))]) hb ⟨rfl, ⟨rfl, ⟨rfl, trivial⟩⟩⟩
def b_Mo_tellsNumber_13 (v1 : Int64) (v3 : Int64) (g : M2) : Option ((Int64 × M2) ⊕ M2) := (if v3 ≤ (0 : Int64) then some (.inr g) else (if v3 = 0 then none else ((f_Mo_tells ((48 : Int32) + ((v1 / v3) - (v1 / v3) / (10 : Int64) * (10 : Int64)).toInt32) g).bind fun q5 => some (.inl ((v3 / (10 : Int64)), q5)))))
theorem tb_Mo_tellsNumber_13 {Lx : Nat} (v1 : Int64)  (v3 : Int64) (g : M2) {b : (Int64 × M2) ⊕ M2} {o : Option Value × M2} (h : b_Mo_tellsNumber_13 v1 v3 g = some b) (hb : Sum.elim (fun s => Ev Lx 282 cd_282 13 [some (.ref 157), some (.long v1), none, some (.long s.1)] [] s.2 o) (fun e => Ev Lx 282 cd_282 32 [] [] e o) b) : Ev Lx 282 cd_282 13 [some (.ref 157), some (.long v1), none, some (.long v3)] [] g o := by
  unfold b_Mo_tellsNumber_13 at h
  refine ev_rn (n := 3) (i2 := 16) (L2 := [some (.ref 157), some (.long v1), none, some (.long v3)]) (st2 := [.int (lg_cmp v3 (0 : Int64))]) (g2 := g) cdE_282 rfl ?_
  by_cases hc4 : v3 ≤ (0 : Int64)
  · rw [if_pos hc4] at h
    refine ev_zft cdE_282 rfl (lc_le_t hc4) ?_
    cases h
    exact ev_wk (L := []) hb trivial
  · rw [if_neg hc4] at h
    refine ev_zff rfl (lc_le_f hc4) ?_
    refine ev_rn (n := 4) (i2 := 21) (L2 := [some (.ref 157), some (.long v1), none, some (.long v3)]) (st2 := [.long v3, .long v1, .int (48 : Int32), .ref 157]) (g2 := g) cdE_282 rfl ?_
    by_cases hd6 : v3 = 0
    · rw [if_pos hd6] at h
      cases h
    · rw [if_neg hd6] at h
      refine ev_ldiv rfl hd6 ?_
      refine ev_rn (n := 1) (i2 := 23) (L2 := [some (.ref 157), some (.long v1), none, some (.long v3)]) (st2 := [.long (10 : Int64), .long (v1 / v3), .int (48 : Int32), .ref 157]) (g2 := g) cdE_282 rfl ?_
      refine ev_lrem rfl (by decide) ?_
      refine ev_rn (n := 2) (i2 := 26) (L2 := [some (.ref 157), some (.long v1), none, some (.long v3)]) (st2 := [.int ((48 : Int32) + ((v1 / v3) - (v1 / v3) / (10 : Int64) * (10 : Int64)).toInt32), .ref 157]) (g2 := g) cdE_282 rfl ?_
      obtain ⟨q5, hq5, h⟩ := Option.bind_eq_some_iff.mp h
      refine ev_call rfl cdE_281 rfl rfl rfl (e_Mo_tells ((48 : Int32) + ((v1 / v3) - (v1 / v3) / (10 : Int64) * (10 : Int64)).toInt32)  g hq5) ?_
      refine ev_rn (n := 2) (i2 := 29) (L2 := [some (.ref 157), some (.long v1), none, some (.long v3)]) (st2 := [.long (10 : Int64), .long v3]) (g2 := q5) cdE_282 rfl ?_
      refine ev_ldiv rfl (by decide) ?_
      refine ev_rn (n := 1) (i2 := 31) (L2 := [some (.ref 157), some (.long v1), none, some (.long (v3 / (10 : Int64))), none]) (st2 := []) (g2 := q5) cdE_282 rfl ?_
      refine ev_rn (n := 1) (i2 := 13) (L2 := [some (.ref 157), some (.long v1), none, some (.long (v3 / (10 : Int64))), none]) (st2 := []) (g2 := q5) cdE_282 rfl ?_
      cases h
      exact ev_wk (L := [some (.ref 157), some (.long v1), none, some (.long (v3 / (10 : Int64)))]) hb ⟨rfl, ⟨rfl, ⟨rfl, trivial⟩⟩⟩
def f_Mo_tellsNumber (p0 : Int64) (g : M2) : Option (M2) := ((lp (fun s => b_Mo_tellsNumber_2 p0 s g) 5000 (1 : Int64)).bind fun e3 => ((lp (fun s => b_Mo_tellsNumber_13 p0 s.1 s.2) 5000 (e3, g)).bind fun e7 => some e7))
theorem e_Mo_tellsNumber {Lx : Nat} (p0 : Int64)  (g : M2) {b : M2} (h : f_Mo_tellsNumber p0 g = some b) : Ev Lx 282 cd_282 0 [some (.ref 157), some (.long p0), none] [] g (none, b) := by
  unfold f_Mo_tellsNumber at h
  refine ev_rn (n := 2) (i2 := 2) (L2 := [some (.ref 157), some (.long p0), none, some (.long (1 : Int64)), none]) (st2 := []) (g2 := g) cdE_282 rfl ?_
  obtain ⟨e3, he3, h⟩ := Option.bind_eq_some_iff.mp h
  have hX9 : Ev Lx 282 cd_282 13 [some (.ref 157), some (.long p0), none, some (.long e3)] [] g (none, b) := by
    obtain ⟨e7, he7, h⟩ := Option.bind_eq_some_iff.mp h
    have hX8 : Ev Lx 282 cd_282 32 [] [] e7 (none, b) := by
      cases h
      exact ev_ret rfl rfl
    exact ev_wk (L := [some (.ref 157), some (.long p0), none, some (.long e3)]) (lp_ind (P := (fun (s : (Int64 × M2)) => Ev Lx 282 cd_282 13 [some (.ref 157), some (.long p0), none, some (.long s.1)] [] s.2 (none, b))) (fun s s2 hs hP => tb_Mo_tellsNumber_13 p0  s.1 s.2 (b := .inl s2) hs hP) (fun s hs => tb_Mo_tellsNumber_13 p0  s.1 s.2 (b := .inr e7) hs hX8) _ _ he7) ⟨rfl, ⟨rfl, ⟨rfl, trivial⟩⟩⟩
  exact ev_wk (L := [some (.ref 157), some (.long p0), none, some (.long (1 : Int64))]) (lp_ind (P := (fun (s : Int64) => Ev Lx 282 cd_282 2 [some (.ref 157), some (.long p0), none, some (.long s)] [] g (none, b))) (fun s s2 hs hP => tb_Mo_tellsNumber_2 p0  s g (b := .inl s2) hs hP) (fun s hs => tb_Mo_tellsNumber_2 p0  s g (b := .inr e3) hs hX9) _ _ he3) ⟨rfl, ⟨rfl, ⟨rfl, trivial⟩⟩⟩
def b_Mo_tell_93 (v2 : Int32) (v3 : Int32) (v4 : Int64) (v6 : Int32) (v9 : Int32) (g : M2) : Option ((Int32 × M2) ⊕ M2) := (if v6 ≤ v9 then some (.inr g) else ((f_Mo_tells (122 : Int32) g).bind fun q21 => some (.inl ((v9 + (1 : Int32)), q21))))
theorem tb_Mo_tell_93 {Lx : Nat} (v2 : Int32) (v3 : Int32) (v4 : Int64) (v6 : Int32)  (v9 : Int32) (g : M2) {b : (Int32 × M2) ⊕ M2} {o : Option Value × M2} (h : b_Mo_tell_93 v2 v3 v4 v6 v9 g = some b) (hb : Sum.elim (fun s => Ev Lx 283 cd_283 93 [some (.ref 157), none, some (.int v2), some (.int v3), some (.long v4), none, some (.int v6), none, none, some (.int s.1)] [] s.2 o) (fun e => Ev Lx 283 cd_283 101 [some (.ref 157), none, some (.int v2), some (.int v3), some (.long v4), none, some (.int v6)] [] e o) b) : Ev Lx 283 cd_283 93 [some (.ref 157), none, some (.int v2), some (.int v3), some (.long v4), none, some (.int v6), none, none, some (.int v9)] [] g o := by
  unfold b_Mo_tell_93 at h
  refine ev_rn (n := 2) (i2 := 95) (L2 := [some (.ref 157), none, some (.int v2), some (.int v3), some (.long v4), none, some (.int v6), none, none, some (.int v9)]) (st2 := [.int v6, .int v9]) (g2 := g) cdE_283 rfl ?_
  by_cases hc20 : v6 ≤ v9
  · rw [if_pos hc20] at h
    refine ev_ift cdE_283 rfl (cn_t hc20) ?_
    cases h
    exact ev_wk (L := [some (.ref 157), none, some (.int v2), some (.int v3), some (.long v4), none, some (.int v6)]) hb ⟨rfl, ⟨rfl, ⟨rfl, ⟨rfl, ⟨rfl, trivial⟩⟩⟩⟩⟩
  · rw [if_neg hc20] at h
    refine ev_iff rfl (cn_f hc20) ?_
    refine ev_rn (n := 2) (i2 := 98) (L2 := [some (.ref 157), none, some (.int v2), some (.int v3), some (.long v4), none, some (.int v6), none, none, some (.int v9)]) (st2 := [.int (122 : Int32), .ref 157]) (g2 := g) cdE_283 rfl ?_
    obtain ⟨q21, hq21, h⟩ := Option.bind_eq_some_iff.mp h
    refine ev_call rfl cdE_281 rfl rfl rfl (e_Mo_tells (122 : Int32)  g hq21) ?_
    refine ev_rn (n := 2) (i2 := 93) (L2 := [some (.ref 157), none, some (.int v2), some (.int v3), some (.long v4), none, some (.int v6), none, none, some (.int (v9 + (1 : Int32)))]) (st2 := []) (g2 := q21) cdE_283 rfl ?_
    cases h
    exact ev_wk (L := [some (.ref 157), none, some (.int v2), some (.int v3), some (.long v4), none, some (.int v6), none, none, some (.int (v9 + (1 : Int32)))]) hb ⟨rfl, ⟨rfl, ⟨rfl, ⟨rfl, ⟨rfl, ⟨rfl, trivial⟩⟩⟩⟩⟩⟩
def j_Mo_tell_91 (v2 : Int32) (v3 : Int32) (v4 : Int64) (v6 : Int32) (g : M2) : Option ((Int32 × Int32 × M2) ⊕ (Int32 × M2)) := ((lp (fun s => b_Mo_tell_93 v2 v3 v4 v6 s.1 s.2) 5000 ((0 : Int32), g)).bind fun e22 => some (.inl (v2, (v6 + (1 : Int32)), e22)))
theorem tj_Mo_tell_91 {Lx : Nat}  (v2 : Int32) (v3 : Int32) (v4 : Int64) (v6 : Int32)  (g : M2) {b : (Int32 × Int32 × M2) ⊕ (Int32 × M2)} {o : Option Value × M2} (h : j_Mo_tell_91 v2 v3 v4 v6 g = some b) (hb : Sum.elim (fun s => Ev Lx 283 cd_283 51 [some (.ref 157), none, some (.int s.1), some (.int v3), some (.long v4), none, some (.int s.2.1)] [] s.2.2 o) (fun e => Ev Lx 283 cd_283 103 [some (.ref 157), none, some (.int e.1), some (.int v3), some (.long v4)] [] e.2 o) b) : Ev Lx 283 cd_283 91 [some (.ref 157), none, some (.int v2), some (.int v3), some (.long v4), none, some (.int v6)] [] g o := by
  unfold j_Mo_tell_91 at h
  refine ev_rn (n := 2) (i2 := 93) (L2 := [some (.ref 157), none, some (.int v2), some (.int v3), some (.long v4), none, some (.int v6), none, none, some (.int (0 : Int32))]) (st2 := []) (g2 := g) cdE_283 rfl ?_
  obtain ⟨e22, he22, h⟩ := Option.bind_eq_some_iff.mp h
  have hX23 : Ev Lx 283 cd_283 101 [some (.ref 157), none, some (.int v2), some (.int v3), some (.long v4), none, some (.int v6)] [] e22 o := by
    refine ev_rn (n := 2) (i2 := 51) (L2 := [some (.ref 157), none, some (.int v2), some (.int v3), some (.long v4), none, some (.int (v6 + (1 : Int32)))]) (st2 := []) (g2 := e22) cdE_283 rfl ?_
    cases h
    exact ev_wk (L := [some (.ref 157), none, some (.int v2), some (.int v3), some (.long v4), none, some (.int (v6 + (1 : Int32)))]) hb ⟨rfl, ⟨rfl, ⟨rfl, ⟨rfl, ⟨rfl, trivial⟩⟩⟩⟩⟩
  exact ev_wk (L := [some (.ref 157), none, some (.int v2), some (.int v3), some (.long v4), none, some (.int v6), none, none, some (.int (0 : Int32))]) (lp_ind (P := (fun (s : (Int32 × M2)) => Ev Lx 283 cd_283 93 [some (.ref 157), none, some (.int v2), some (.int v3), some (.long v4), none, some (.int v6), none, none, some (.int s.1)] [] s.2 o)) (fun s s2 hs hP => tb_Mo_tell_93 v2 v3 v4 v6  s.1 s.2 (b := .inl s2) hs hP) (fun s hs => tb_Mo_tell_93 v2 v3 v4 v6  s.1 s.2 (b := .inr e22) hs hX23) _ _ he22) ⟨rfl, ⟨rfl, ⟨rfl, ⟨rfl, ⟨rfl, ⟨rfl, trivial⟩⟩⟩⟩⟩⟩
def j_Mo_tell_87 (v2 : Int32) (v3 : Int32) (v4 : Int64) (v6 : Int32) (v7 : Int64) (g : M2) : Option ((Int32 × Int32 × M2) ⊕ (Int32 × M2)) := ((f_Mo_tellsNumber (f_Ma_abs v7 g) g).bind fun q19 => (j_Mo_tell_91 v2 v3 v4 v6 q19))
theorem tj_Mo_tell_87 {Lx : Nat}  (v2 : Int32) (v3 : Int32) (v4 : Int64) (v6 : Int32) (v7 : Int64)  (g : M2) {b : (Int32 × Int32 × M2) ⊕ (Int32 × M2)} {o : Option Value × M2} (h : j_Mo_tell_87 v2 v3 v4 v6 v7 g = some b) (hb : Sum.elim (fun s => Ev Lx 283 cd_283 51 [some (.ref 157), none, some (.int s.1), some (.int v3), some (.long v4), none, some (.int s.2.1)] [] s.2.2 o) (fun e => Ev Lx 283 cd_283 103 [some (.ref 157), none, some (.int e.1), some (.int v3), some (.long v4)] [] e.2 o) b) : Ev Lx 283 cd_283 87 [some (.ref 157), none, some (.int v2), some (.int v3), some (.long v4), none, some (.int v6), some (.long v7)] [] g o := by
  unfold j_Mo_tell_87 at h
  refine ev_rn (n := 2) (i2 := 89) (L2 := [some (.ref 157), none, some (.int v2), some (.int v3), some (.long v4), none, some (.int v6), some (.long v7)]) (st2 := [.long v7, .ref 157]) (g2 := g) cdE_283 rfl ?_
  refine ev_call rfl cdE_125 rfl rfl rfl (e_Ma_abs v7  g rfl) ?_
  obtain ⟨q19, hq19, h⟩ := Option.bind_eq_some_iff.mp h
  refine ev_call rfl cdE_282 rfl rfl rfl (e_Mo_tellsNumber (f_Ma_abs v7 g)  g hq19) ?_
  exact ev_wk (L := [some (.ref 157), none, some (.int v2), some (.int v3), some (.long v4), none, some (.int v6)]) (tj_Mo_tell_91  v2 v3 v4 v6  q19 h hb) ⟨rfl, ⟨rfl, ⟨rfl, ⟨rfl, ⟨rfl, trivial⟩⟩⟩⟩⟩
def j_Mo_tell_78 (v3 : Int32) (v4 : Int64) (v6 : Int32) (v7 : Int64) (g : M2) : Option ((Int32 × Int32 × M2) ⊕ (Int32 × M2)) := (if v6 = 0 then (j_Mo_tell_87 (0 : Int32) v3 v4 v6 v7 g) else (if (f_Ma_abs v7 g) = (1 : Int64) then (j_Mo_tell_91 (0 : Int32) v3 v4 v6 g) else (j_Mo_tell_87 (0 : Int32) v3 v4 v6 v7 g)))
theorem tj_Mo_tell_78 {Lx : Nat}  (v3 : Int32) (v4 : Int64) (v6 : Int32) (v7 : Int64)  (g : M2) {b : (Int32 × Int32 × M2) ⊕ (Int32 × M2)} {o : Option Value × M2} (h : j_Mo_tell_78 v3 v4 v6 v7 g = some b) (hb : Sum.elim (fun s => Ev Lx 283 cd_283 51 [some (.ref 157), none, some (.int s.1), some (.int v3), some (.long v4), none, some (.int s.2.1)] [] s.2.2 o) (fun e => Ev Lx 283 cd_283 103 [some (.ref 157), none, some (.int e.1), some (.int v3), some (.long v4)] [] e.2 o) b) : Ev Lx 283 cd_283 78 [some (.ref 157), none, none, some (.int v3), some (.long v4), none, some (.int v6), some (.long v7)] [] g o := by
  unfold j_Mo_tell_78 at h
  refine ev_rn (n := 3) (i2 := 81) (L2 := [some (.ref 157), none, some (.int (0 : Int32)), some (.int v3), some (.long v4), none, some (.int v6), some (.long v7)]) (st2 := [.int v6]) (g2 := g) cdE_283 rfl ?_
  by_cases hc18 : v6 = 0
  · rw [if_pos hc18] at h
    refine ev_zft cdE_283 rfl (cn_t hc18) ?_
    exact ev_wk (L := [some (.ref 157), none, some (.int (0 : Int32)), some (.int v3), some (.long v4), none, some (.int v6), some (.long v7)]) (tj_Mo_tell_87  (0 : Int32) v3 v4 v6 v7  g h hb) ⟨rfl, ⟨rfl, ⟨rfl, ⟨rfl, ⟨rfl, ⟨rfl, trivial⟩⟩⟩⟩⟩⟩
  · rw [if_neg hc18] at h
    refine ev_zff rfl (cn_f hc18) ?_
    refine ev_rn (n := 1) (i2 := 83) (L2 := [some (.ref 157), none, some (.int (0 : Int32)), some (.int v3), some (.long v4), none, some (.int v6), some (.long v7)]) (st2 := [.long v7]) (g2 := g) cdE_283 rfl ?_
    refine ev_call rfl cdE_125 rfl rfl rfl (e_Ma_abs v7  g rfl) ?_
    refine ev_rn (n := 2) (i2 := 86) (L2 := [some (.ref 157), none, some (.int (0 : Int32)), some (.int v3), some (.long v4), none, some (.int v6), some (.long v7)]) (st2 := [.int (lg_cmp (f_Ma_abs v7 g) (1 : Int64))]) (g2 := g) cdE_283 rfl ?_
    by_cases hc24 : (f_Ma_abs v7 g) = (1 : Int64)
    · rw [if_pos hc24] at h
      refine ev_zft cdE_283 rfl (lc_eq_t hc24) ?_
      exact ev_wk (L := [some (.ref 157), none, some (.int (0 : Int32)), some (.int v3), some (.long v4), none, some (.int v6)]) (tj_Mo_tell_91  (0 : Int32) v3 v4 v6  g h hb) ⟨rfl, ⟨rfl, ⟨rfl, ⟨rfl, ⟨rfl, trivial⟩⟩⟩⟩⟩
    · rw [if_neg hc24] at h
      refine ev_zff rfl (lc_eq_f hc24) ?_
      exact ev_wk (L := [some (.ref 157), none, some (.int (0 : Int32)), some (.int v3), some (.long v4), none, some (.int v6), some (.long v7)]) (tj_Mo_tell_87  (0 : Int32) v3 v4 v6 v7  g h hb) ⟨rfl, ⟨rfl, ⟨rfl, ⟨rfl, ⟨rfl, ⟨rfl, trivial⟩⟩⟩⟩⟩⟩
def b_Mo_tell_51 (v3 : Int32) (v4 : Int64) (v2 : Int32) (v6 : Int32) (g : M2) : Option ((Int32 × Int32 × M2) ⊕ (Int32 × M2)) := (if (4 : Int32) ≤ v6 then some (.inr (v2, g)) else ((f_Mo_told v3 v4 v6 g).bind fun q14 => (if q14 = (0 : Int64) then some (.inl (v2, (v6 + (1 : Int32)), g)) else (if (0 : Int64) ≤ q14 then (if v2 = 0 then ((f_Mo_tells (43 : Int32) g).bind fun q25 => (j_Mo_tell_78 v3 v4 v6 q14 q25)) else (j_Mo_tell_78 v3 v4 v6 q14 g)) else ((f_Mo_tells (45 : Int32) g).bind fun q26 => (j_Mo_tell_78 v3 v4 v6 q14 q26))))))
theorem tb_Mo_tell_51 {Lx : Nat} (v3 : Int32) (v4 : Int64)  (v2 : Int32) (v6 : Int32) (g : M2) {b : (Int32 × Int32 × M2) ⊕ (Int32 × M2)} {o : Option Value × M2} (h : b_Mo_tell_51 v3 v4 v2 v6 g = some b) (hb : Sum.elim (fun s => Ev Lx 283 cd_283 51 [some (.ref 157), none, some (.int s.1), some (.int v3), some (.long v4), none, some (.int s.2.1)] [] s.2.2 o) (fun e => Ev Lx 283 cd_283 103 [some (.ref 157), none, some (.int e.1), some (.int v3), some (.long v4)] [] e.2 o) b) : Ev Lx 283 cd_283 51 [some (.ref 157), none, some (.int v2), some (.int v3), some (.long v4), none, some (.int v6)] [] g o := by
  unfold b_Mo_tell_51 at h
  refine ev_rn (n := 2) (i2 := 53) (L2 := [some (.ref 157), none, some (.int v2), some (.int v3), some (.long v4), none, some (.int v6)]) (st2 := [.int (4 : Int32), .int v6]) (g2 := g) cdE_283 rfl ?_
  by_cases hc13 : (4 : Int32) ≤ v6
  · rw [if_pos hc13] at h
    refine ev_ift cdE_283 rfl (cn_t hc13) ?_
    cases h
    exact ev_wk (L := [some (.ref 157), none, some (.int v2), some (.int v3), some (.long v4)]) hb ⟨rfl, ⟨rfl, ⟨rfl, ⟨rfl, trivial⟩⟩⟩⟩
  · rw [if_neg hc13] at h
    refine ev_iff rfl (cn_f hc13) ?_
    refine ev_rn (n := 4) (i2 := 58) (L2 := [some (.ref 157), none, some (.int v2), some (.int v3), some (.long v4), none, some (.int v6)]) (st2 := [.int v6, .long v4, .int v3, .ref 157]) (g2 := g) cdE_283 rfl ?_
    obtain ⟨q14, hq14, h⟩ := Option.bind_eq_some_iff.mp h
    refine ev_call rfl cdE_131 rfl rfl rfl (e_Mo_told v3 v4 v6  g hq14) ?_
    refine ev_rn (n := 1) (i2 := 60) (L2 := [some (.ref 157), none, some (.int v2), some (.int v3), some (.long v4), none, some (.int v6), some (.long q14), none]) (st2 := []) (g2 := g) cdE_283 rfl ?_
    refine ev_rn (n := 3) (i2 := 63) (L2 := [some (.ref 157), none, some (.int v2), some (.int v3), some (.long v4), none, some (.int v6), some (.long q14), none]) (st2 := [.int (lg_cmp q14 (0 : Int64))]) (g2 := g) cdE_283 rfl ?_
    by_cases hc15 : q14 = (0 : Int64)
    · rw [if_pos hc15] at h
      refine ev_zff rfl (lc_ne_f hc15) ?_
      refine ev_rn (n := 3) (i2 := 51) (L2 := [some (.ref 157), none, some (.int v2), some (.int v3), some (.long v4), none, some (.int (v6 + (1 : Int32))), some (.long q14), none]) (st2 := []) (g2 := g) cdE_283 rfl ?_
      cases h
      exact ev_wk (L := [some (.ref 157), none, some (.int v2), some (.int v3), some (.long v4), none, some (.int (v6 + (1 : Int32)))]) hb ⟨rfl, ⟨rfl, ⟨rfl, ⟨rfl, ⟨rfl, trivial⟩⟩⟩⟩⟩
    · rw [if_neg hc15] at h
      refine ev_zft cdE_283 rfl (lc_ne_t hc15) ?_
      refine ev_rn (n := 3) (i2 := 68) (L2 := [some (.ref 157), none, some (.int v2), some (.int v3), some (.long v4), none, some (.int v6), some (.long q14), none]) (st2 := [.int (lg_cmp q14 (0 : Int64))]) (g2 := g) cdE_283 rfl ?_
      by_cases hc16 : (0 : Int64) ≤ q14
      · rw [if_pos hc16] at h
        refine ev_zft cdE_283 rfl (lc_ge_t hc16) ?_
        refine ev_rn (n := 1) (i2 := 74) (L2 := [some (.ref 157), none, some (.int v2), some (.int v3), some (.long v4), none, some (.int v6), some (.long q14), none]) (st2 := [.int v2]) (g2 := g) cdE_283 rfl ?_
        by_cases hc17 : v2 = 0
        · rw [if_pos hc17] at h
          refine ev_zff rfl (cn_f (fun q => q hc17)) ?_
          refine ev_rn (n := 2) (i2 := 77) (L2 := [some (.ref 157), none, some (.int v2), some (.int v3), some (.long v4), none, some (.int v6), some (.long q14), none]) (st2 := [.int (43 : Int32), .ref 157]) (g2 := g) cdE_283 rfl ?_
          obtain ⟨q25, hq25, h⟩ := Option.bind_eq_some_iff.mp h
          refine ev_call rfl cdE_281 rfl rfl rfl (e_Mo_tells (43 : Int32)  g hq25) ?_
          exact ev_wk (L := [some (.ref 157), none, none, some (.int v3), some (.long v4), none, some (.int v6), some (.long q14)]) (tj_Mo_tell_78  v3 v4 v6 q14  q25 h hb) ⟨rfl, ⟨rfl, ⟨rfl, ⟨rfl, ⟨rfl, trivial⟩⟩⟩⟩⟩
        · rw [if_neg hc17] at h
          refine ev_zft cdE_283 rfl (cn_t hc17) ?_
          exact ev_wk (L := [some (.ref 157), none, none, some (.int v3), some (.long v4), none, some (.int v6), some (.long q14)]) (tj_Mo_tell_78  v3 v4 v6 q14  g h hb) ⟨rfl, ⟨rfl, ⟨rfl, ⟨rfl, ⟨rfl, trivial⟩⟩⟩⟩⟩
      · rw [if_neg hc16] at h
        refine ev_zff rfl (lc_ge_f hc16) ?_
        refine ev_rn (n := 2) (i2 := 71) (L2 := [some (.ref 157), none, some (.int v2), some (.int v3), some (.long v4), none, some (.int v6), some (.long q14), none]) (st2 := [.int (45 : Int32), .ref 157]) (g2 := g) cdE_283 rfl ?_
        obtain ⟨q26, hq26, h⟩ := Option.bind_eq_some_iff.mp h
        refine ev_call rfl cdE_281 rfl rfl rfl (e_Mo_tells (45 : Int32)  g hq26) ?_
        refine ev_rn (n := 1) (i2 := 78) (L2 := [some (.ref 157), none, some (.int v2), some (.int v3), some (.long v4), none, some (.int v6), some (.long q14), none]) (st2 := []) (g2 := q26) cdE_283 rfl ?_
        exact ev_wk (L := [some (.ref 157), none, none, some (.int v3), some (.long v4), none, some (.int v6), some (.long q14)]) (tj_Mo_tell_78  v3 v4 v6 q14  q26 h hb) ⟨rfl, ⟨rfl, ⟨rfl, ⟨rfl, ⟨rfl, trivial⟩⟩⟩⟩⟩
def j_Mo_tell_108 (v3 : Int32) (v4 : Int64) (g : M2) : Option (Int32 × M2) := ((f_Mo_told v3 v4 (4 : Int32) g).bind fun q29 => (if q29 = (1 : Int64) then some ((g.1 157 38), g) else ((f_Mo_tells (47 : Int32) g).bind fun q31 => ((f_Mo_tellsNumber q29 q31).bind fun q32 => some ((q32.1 157 38), q32)))))
theorem tj_Mo_tell_108 {Lx : Nat}  (v3 : Int32) (v4 : Int64)  (g : M2) {b : (Int32 × M2)} (h : j_Mo_tell_108 v3 v4 g = some b) : Ev Lx 283 cd_283 108 [some (.ref 157), none, none, some (.int v3), some (.long v4)] [] g (some (.int b.1), b.2) := by
  unfold j_Mo_tell_108 at h
  refine ev_rn (n := 4) (i2 := 112) (L2 := [some (.ref 157), none, none, some (.int v3), some (.long v4)]) (st2 := [.int (4 : Int32), .long v4, .int v3, .ref 157]) (g2 := g) cdE_283 rfl ?_
  obtain ⟨q29, hq29, h⟩ := Option.bind_eq_some_iff.mp h
  refine ev_call rfl cdE_131 rfl rfl rfl (e_Mo_told v3 v4 (4 : Int32)  g hq29) ?_
  refine ev_rn (n := 1) (i2 := 114) (L2 := [some (.ref 157), none, none, some (.int v3), some (.long v4), none, some (.long q29), none]) (st2 := []) (g2 := g) cdE_283 rfl ?_
  refine ev_rn (n := 3) (i2 := 117) (L2 := [some (.ref 157), none, none, some (.int v3), some (.long v4), none, some (.long q29), none]) (st2 := [.int (lg_cmp q29 (1 : Int64))]) (g2 := g) cdE_283 rfl ?_
  by_cases hc30 : q29 = (1 : Int64)
  · rw [if_pos hc30] at h
    refine ev_zff rfl (lc_ne_f hc30) ?_
    refine ev_rn (n := 2) (i2 := 120) (L2 := [some (.ref 157), none, none, some (.int v3), some (.long v4), none, some (.long q29), none]) (st2 := [.int (g.1 157 38)]) (g2 := g) cdE_283 rfl ?_
    cases h
    exact ev_ret rfl rfl
  · rw [if_neg hc30] at h
    refine ev_zft cdE_283 rfl (lc_ne_t hc30) ?_
    refine ev_rn (n := 2) (i2 := 123) (L2 := [some (.ref 157), none, none, some (.int v3), some (.long v4), none, some (.long q29), none]) (st2 := [.int (47 : Int32), .ref 157]) (g2 := g) cdE_283 rfl ?_
    obtain ⟨q31, hq31, h⟩ := Option.bind_eq_some_iff.mp h
    refine ev_call rfl cdE_281 rfl rfl rfl (e_Mo_tells (47 : Int32)  g hq31) ?_
    refine ev_rn (n := 2) (i2 := 126) (L2 := [some (.ref 157), none, none, some (.int v3), some (.long v4), none, some (.long q29), none]) (st2 := [.long q29, .ref 157]) (g2 := q31) cdE_283 rfl ?_
    obtain ⟨q32, hq32, h⟩ := Option.bind_eq_some_iff.mp h
    refine ev_call rfl cdE_282 rfl rfl rfl (e_Mo_tellsNumber q29  q31 hq32) ?_
    refine ev_rn (n := 2) (i2 := 129) (L2 := [some (.ref 157), none, none, some (.int v3), some (.long v4), none, some (.long q29), none]) (st2 := [.int (q32.1 157 38)]) (g2 := q32) cdE_283 rfl ?_
    cases h
    exact ev_ret rfl rfl
def j_Mo_tell_49 (v2 : Int32) (v3 : Int32) (v4 : Int64) (g : M2) : Option (Int32 × M2) := ((lp (fun s => b_Mo_tell_51 v3 v4 s.1 s.2.1 s.2.2) 5000 (v2, (0 : Int32), g)).bind fun e27 => (if e27.1 = 0 then (j_Mo_tell_108 v3 v4 e27.2) else ((f_Mo_tells (48 : Int32) e27.2).bind fun q33 => (j_Mo_tell_108 v3 v4 q33))))
theorem tj_Mo_tell_49 {Lx : Nat}  (v2 : Int32) (v3 : Int32) (v4 : Int64)  (g : M2) {b : (Int32 × M2)} (h : j_Mo_tell_49 v2 v3 v4 g = some b) : Ev Lx 283 cd_283 49 [some (.ref 157), none, some (.int v2), some (.int v3), some (.long v4)] [] g (some (.int b.1), b.2) := by
  unfold j_Mo_tell_49 at h
  refine ev_rn (n := 2) (i2 := 51) (L2 := [some (.ref 157), none, some (.int v2), some (.int v3), some (.long v4), none, some (.int (0 : Int32))]) (st2 := []) (g2 := g) cdE_283 rfl ?_
  obtain ⟨e27, he27, h⟩ := Option.bind_eq_some_iff.mp h
  have hX34 : Ev Lx 283 cd_283 103 [some (.ref 157), none, some (.int e27.1), some (.int v3), some (.long v4)] [] e27.2 (some (.int b.1), b.2) := by
    refine ev_rn (n := 1) (i2 := 104) (L2 := [some (.ref 157), none, some (.int e27.1), some (.int v3), some (.long v4)]) (st2 := [.int e27.1]) (g2 := e27.2) cdE_283 rfl ?_
    by_cases hc28 : e27.1 = 0
    · rw [if_pos hc28] at h
      refine ev_zft cdE_283 rfl (cn_t hc28) ?_
      exact ev_wk (L := [some (.ref 157), none, none, some (.int v3), some (.long v4)]) (tj_Mo_tell_108  v3 v4  e27.2 h) ⟨rfl, ⟨rfl, ⟨rfl, trivial⟩⟩⟩
    · rw [if_neg hc28] at h
      refine ev_zff rfl (cn_f hc28) ?_
      refine ev_rn (n := 2) (i2 := 107) (L2 := [some (.ref 157), none, some (.int e27.1), some (.int v3), some (.long v4)]) (st2 := [.int (48 : Int32), .ref 157]) (g2 := e27.2) cdE_283 rfl ?_
      obtain ⟨q33, hq33, h⟩ := Option.bind_eq_some_iff.mp h
      refine ev_call rfl cdE_281 rfl rfl rfl (e_Mo_tells (48 : Int32)  e27.2 hq33) ?_
      exact ev_wk (L := [some (.ref 157), none, none, some (.int v3), some (.long v4)]) (tj_Mo_tell_108  v3 v4  q33 h) ⟨rfl, ⟨rfl, ⟨rfl, trivial⟩⟩⟩
  exact ev_wk (L := [some (.ref 157), none, some (.int v2), some (.int v3), some (.long v4), none, some (.int (0 : Int32))]) (lp_ind (P := (fun (s : (Int32 × Int32 × M2)) => Ev Lx 283 cd_283 51 [some (.ref 157), none, some (.int s.1), some (.int v3), some (.long v4), none, some (.int s.2.1)] [] s.2.2 (some (.int b.1), b.2))) (fun s s2 hs hP => tb_Mo_tell_51 v3 v4  s.1 s.2.1 s.2.2 (b := .inl s2) hs hP) (fun s hs => tb_Mo_tell_51 v3 v4  s.1 s.2.1 s.2.2 (b := .inr e27) hs hX34) _ _ he27) ⟨rfl, ⟨rfl, ⟨rfl, ⟨rfl, ⟨rfl, trivial⟩⟩⟩⟩⟩
def j_Mo_tell_40 (v1 : Int32) (v2 : Int32) (v3 : Int32) (v4 : Int64) (g : M2) : Option (Int32 × M2) := (if inb v1 5 then (if (g.1 166 v1.toNatClampNeg) = (-1 : Int32) then ((f_Mo_clears (81 : Int32) g).bind fun q35 => (j_Mo_tell_49 v2 v3 v4 q35)) else (j_Mo_tell_49 v2 v3 v4 g)) else none)
theorem tj_Mo_tell_40 {Lx : Nat}  (v1 : Int32) (v2 : Int32) (v3 : Int32) (v4 : Int64)  (g : M2) {b : (Int32 × M2)} (h : j_Mo_tell_40 v1 v2 v3 v4 g = some b) : Ev Lx 283 cd_283 40 [some (.ref 157), some (.int v1), some (.int v2), some (.int v3), some (.long v4)] [] g (some (.int b.1), b.2) := by
  unfold j_Mo_tell_40 at h
  refine ev_rn (n := 3) (i2 := 43) (L2 := [some (.ref 157), some (.int v1), some (.int v2), some (.int v3), some (.long v4)]) (st2 := [.int v1, .ref 166]) (g2 := g) cdE_283 rfl ?_
  by_cases hi11 : inb v1 5
  · rw [if_pos hi11] at h
    refine ev_iaload (v := .int (g.1 166 v1.toNatClampNeg)) rfl (kd_of (show S0[166]? = some (100, 5, List.replicate 5 none) from rfl)) (by decide) hi11 rfl ?_
    refine ev_rn (n := 1) (i2 := 45) (L2 := [some (.ref 157), some (.int v1), some (.int v2), some (.int v3), some (.long v4)]) (st2 := [.int (-1 : Int32), .int (g.1 166 v1.toNatClampNeg)]) (g2 := g) cdE_283 rfl ?_
    by_cases hc12 : (g.1 166 v1.toNatClampNeg) = (-1 : Int32)
    · rw [if_pos hc12] at h
      refine ev_iff rfl (cn_f (fun q => q hc12)) ?_
      refine ev_rn (n := 2) (i2 := 48) (L2 := [some (.ref 157), some (.int v1), some (.int v2), some (.int v3), some (.long v4)]) (st2 := [.int (81 : Int32), .ref 157]) (g2 := g) cdE_283 rfl ?_
      obtain ⟨q35, hq35, h⟩ := Option.bind_eq_some_iff.mp h
      refine ev_call rfl cdE_104 rfl rfl rfl (e_Mo_clears (81 : Int32)  g hq35) ?_
      exact ev_wk (L := [some (.ref 157), none, some (.int v2), some (.int v3), some (.long v4)]) (tj_Mo_tell_49  v2 v3 v4  q35 h) ⟨rfl, ⟨rfl, ⟨rfl, ⟨rfl, trivial⟩⟩⟩⟩
    · rw [if_neg hc12] at h
      refine ev_ift cdE_283 rfl (cn_t hc12) ?_
      exact ev_wk (L := [some (.ref 157), none, some (.int v2), some (.int v3), some (.long v4)]) (tj_Mo_tell_49  v2 v3 v4  g h) ⟨rfl, ⟨rfl, ⟨rfl, ⟨rfl, trivial⟩⟩⟩⟩
  · rw [if_neg hi11] at h
    cases h
def j_Mo_tell_29 (v1 : Int32) (v2 : Int32) (v3 : Int32) (g : M2) : Option (Int32 × M2) := (if inb v1 5 then (if (g.1 166 v1.toNatClampNeg) = (-1 : Int32) then (j_Mo_tell_40 v1 v2 v3 (1 : Int64) g) else (j_Mo_tell_40 v1 v2 v3 (g.2 157 16) g)) else none)
theorem tj_Mo_tell_29 {Lx : Nat}  (v1 : Int32) (v2 : Int32) (v3 : Int32)  (g : M2) {b : (Int32 × M2)} (h : j_Mo_tell_29 v1 v2 v3 g = some b) : Ev Lx 283 cd_283 29 [some (.ref 157), some (.int v1), some (.int v2), some (.int v3)] [] g (some (.int b.1), b.2) := by
  unfold j_Mo_tell_29 at h
  refine ev_rn (n := 3) (i2 := 32) (L2 := [some (.ref 157), some (.int v1), some (.int v2), some (.int v3)]) (st2 := [.int v1, .ref 166]) (g2 := g) cdE_283 rfl ?_
  by_cases hi9 : inb v1 5
  · rw [if_pos hi9] at h
    refine ev_iaload (v := .int (g.1 166 v1.toNatClampNeg)) rfl (kd_of (show S0[166]? = some (100, 5, List.replicate 5 none) from rfl)) (by decide) hi9 rfl ?_
    refine ev_rn (n := 1) (i2 := 34) (L2 := [some (.ref 157), some (.int v1), some (.int v2), some (.int v3)]) (st2 := [.int (-1 : Int32), .int (g.1 166 v1.toNatClampNeg)]) (g2 := g) cdE_283 rfl ?_
    by_cases hc10 : (g.1 166 v1.toNatClampNeg) = (-1 : Int32)
    · rw [if_pos hc10] at h
      refine ev_iff rfl (cn_f (fun q => q hc10)) ?_
      refine ev_rn (n := 3) (i2 := 40) (L2 := [some (.ref 157), some (.int v1), some (.int v2), some (.int v3), some (.long (1 : Int64)), none]) (st2 := []) (g2 := g) cdE_283 rfl ?_
      exact ev_wk (L := [some (.ref 157), some (.int v1), some (.int v2), some (.int v3), some (.long (1 : Int64))]) (tj_Mo_tell_40  v1 v2 v3 (1 : Int64)  g h) ⟨rfl, ⟨rfl, ⟨rfl, ⟨rfl, ⟨rfl, trivial⟩⟩⟩⟩⟩
    · rw [if_neg hc10] at h
      refine ev_ift cdE_283 rfl (cn_t hc10) ?_
      refine ev_rn (n := 3) (i2 := 40) (L2 := [some (.ref 157), some (.int v1), some (.int v2), some (.int v3), some (.long (g.2 157 16)), none]) (st2 := []) (g2 := g) cdE_283 rfl ?_
      exact ev_wk (L := [some (.ref 157), some (.int v1), some (.int v2), some (.int v3), some (.long (g.2 157 16))]) (tj_Mo_tell_40  v1 v2 v3 (g.2 157 16)  g h) ⟨rfl, ⟨rfl, ⟨rfl, ⟨rfl, ⟨rfl, trivial⟩⟩⟩⟩⟩
  · rw [if_neg hi9] at h
    cases h
def f_Mo_tell (p0 : Int32) (g : M2) : Option (Int32 × M2) := ((f_Mo_isElement p0 g).bind fun q1 => (if q1 = 0 then some ((-2 : Int32), g) else ((f_Mo_canNow g).bind fun q3 => (if q3.1 = 0 then some ((-2 : Int32), q3.2) else (bd (uI q3.2 157 38 (0 : Int32)) fun g5 => (if inb p0 5 then (if (g5.1 166 p0.toNatClampNeg) = (-1 : Int32) then (j_Mo_tell_29 p0 (1 : Int32) (81 : Int32) g5) else (if inb p0 5 then (j_Mo_tell_29 p0 (1 : Int32) ((62 : Int32) + (g5.1 166 p0.toNatClampNeg)) g5) else none)) else none))))))
theorem e_Mo_tell {Lx : Nat} (p0 : Int32)  (g : M2) {b : (Int32 × M2)} (h : f_Mo_tell p0 g = some b) : Ev Lx 283 cd_283 0 [some (.ref 157), some (.int p0)] [] g (some (.int b.1), b.2) := by
  unfold f_Mo_tell at h
  refine ev_rn (n := 2) (i2 := 2) (L2 := [some (.ref 157), some (.int p0)]) (st2 := [.int p0, .ref 157]) (g2 := g) cdE_283 rfl ?_
  obtain ⟨q1, hq1, h⟩ := Option.bind_eq_some_iff.mp h
  refine ev_call rfl cdE_69 rfl rfl rfl (e_Mo_isElement p0  g hq1) ?_
  by_cases hc2 : q1 = 0
  · rw [if_pos hc2] at h
    refine ev_zft cdE_283 rfl (cn_t hc2) ?_
    refine ev_rn (n := 1) (i2 := 8) (L2 := [some (.ref 157), some (.int p0)]) (st2 := [.int (-2 : Int32)]) (g2 := g) cdE_283 rfl ?_
    cases h
    exact ev_ret rfl rfl
  · rw [if_neg hc2] at h
    refine ev_zff rfl (cn_f hc2) ?_
    refine ev_rn (n := 1) (i2 := 5) (L2 := [some (.ref 157), some (.int p0)]) (st2 := [.ref 157]) (g2 := g) cdE_283 rfl ?_
    obtain ⟨q3, hq3, h⟩ := Option.bind_eq_some_iff.mp h
    refine ev_call rfl cdE_118 rfl rfl rfl (e_Mo_canNow   g hq3) ?_
    by_cases hc4 : q3.1 = 0
    · rw [if_pos hc4] at h
      refine ev_zff rfl (cn_f (fun q => q hc4)) ?_
      refine ev_rn (n := 1) (i2 := 8) (L2 := [some (.ref 157), some (.int p0)]) (st2 := [.int (-2 : Int32)]) (g2 := q3.2) cdE_283 rfl ?_
      cases h
      exact ev_ret rfl rfl
    · rw [if_neg hc4] at h
      refine ev_zft cdE_283 rfl (cn_t hc4) ?_
      refine ev_rn (n := 2) (i2 := 11) (L2 := [some (.ref 157), some (.int p0)]) (st2 := [.int (0 : Int32), .ref 157]) (g2 := q3.2) cdE_283 rfl ?_
      refine bd_elim h (fun g5 hg5 h => ?_)
      refine ev_pf (g2 := g5) rfl (rfl : S0[157]? = some _) (by decide) (by rw [hg5] <;> rfl) ?_
      refine ev_rn (n := 5) (i2 := 17) (L2 := [some (.ref 157), some (.int p0), some (.int (1 : Int32))]) (st2 := [.int p0, .ref 166]) (g2 := g5) cdE_283 rfl ?_
      by_cases hi6 : inb p0 5
      · rw [if_pos hi6] at h
        refine ev_iaload (v := .int (g5.1 166 p0.toNatClampNeg)) rfl (kd_of (show S0[166]? = some (100, 5, List.replicate 5 none) from rfl)) (by decide) hi6 rfl ?_
        refine ev_rn (n := 1) (i2 := 19) (L2 := [some (.ref 157), some (.int p0), some (.int (1 : Int32))]) (st2 := [.int (-1 : Int32), .int (g5.1 166 p0.toNatClampNeg)]) (g2 := g5) cdE_283 rfl ?_
        by_cases hc7 : (g5.1 166 p0.toNatClampNeg) = (-1 : Int32)
        · rw [if_pos hc7] at h
          refine ev_iff rfl (cn_f (fun q => q hc7)) ?_
          refine ev_rn (n := 3) (i2 := 29) (L2 := [some (.ref 157), some (.int p0), some (.int (1 : Int32)), some (.int (81 : Int32))]) (st2 := []) (g2 := g5) cdE_283 rfl ?_
          exact ev_wk (L := [some (.ref 157), some (.int p0), some (.int (1 : Int32)), some (.int (81 : Int32))]) (tj_Mo_tell_29  p0 (1 : Int32) (81 : Int32)  g5 h) ⟨rfl, ⟨rfl, ⟨rfl, ⟨rfl, trivial⟩⟩⟩⟩
        · rw [if_neg hc7] at h
          refine ev_ift cdE_283 rfl (cn_t hc7) ?_
          refine ev_rn (n := 4) (i2 := 26) (L2 := [some (.ref 157), some (.int p0), some (.int (1 : Int32))]) (st2 := [.int p0, .ref 166, .int (62 : Int32)]) (g2 := g5) cdE_283 rfl ?_
          by_cases hi8 : inb p0 5
          · rw [if_pos hi8] at h
            refine ev_iaload (v := .int (g5.1 166 p0.toNatClampNeg)) rfl (kd_of (show S0[166]? = some (100, 5, List.replicate 5 none) from rfl)) (by decide) hi8 rfl ?_
            refine ev_rn (n := 2) (i2 := 29) (L2 := [some (.ref 157), some (.int p0), some (.int (1 : Int32)), some (.int ((62 : Int32) + (g5.1 166 p0.toNatClampNeg)))]) (st2 := []) (g2 := g5) cdE_283 rfl ?_
            exact ev_wk (L := [some (.ref 157), some (.int p0), some (.int (1 : Int32)), some (.int ((62 : Int32) + (g5.1 166 p0.toNatClampNeg)))]) (tj_Mo_tell_29  p0 (1 : Int32) ((62 : Int32) + (g5.1 166 p0.toNatClampNeg))  g5 h) ⟨rfl, ⟨rfl, ⟨rfl, ⟨rfl, trivial⟩⟩⟩⟩
          · rw [if_neg hi8] at h
            cases h
      · rw [if_neg hi6] at h
        cases h
def f_Da_octet (p0 : Int32) (g : M2) : Option (Int32) := (if (f_Da_isAmong p0 (g.1 153 1) g) = 0 then some (-1 : Int32) else (if inb p0 160 then some (g.1 154 p0.toNatClampNeg) else none))
theorem e_Da_octet {Lx : Nat} (p0 : Int32)  (g : M2) {b : Int32} (h : f_Da_octet p0 g = some b) : Ev Lx 284 cd_284 0 [some (.ref 0), some (.int p0)] [] g (some (.int b), g) := by
  unfold f_Da_octet at h
  refine ev_rn (n := 4) (i2 := 4) (L2 := [some (.ref 0), some (.int p0)]) (st2 := [.int (g.1 153 1), .int p0]) (g2 := g) cdE_284 rfl ?_
  refine ev_call rfl cdE_65 rfl rfl rfl (e_Da_isAmong p0 (g.1 153 1)  g rfl) ?_
  by_cases hc1 : (f_Da_isAmong p0 (g.1 153 1) g) = 0
  · rw [if_pos hc1] at h
    refine ev_zft cdE_284 rfl (cn_t hc1) ?_
    refine ev_rn (n := 1) (i2 := 13) (L2 := [some (.ref 0), some (.int p0)]) (st2 := [.int (-1 : Int32)]) (g2 := g) cdE_284 rfl ?_
    cases h
    exact ev_ret rfl rfl
  · rw [if_neg hc1] at h
    refine ev_zff rfl (cn_f hc1) ?_
    refine ev_rn (n := 4) (i2 := 10) (L2 := [some (.ref 0), some (.int p0)]) (st2 := [.int p0, .ref 154]) (g2 := g) cdE_284 rfl ?_
    by_cases hi2 : inb p0 160
    · rw [if_pos hi2] at h
      refine ev_iaload (v := .int (g.1 154 p0.toNatClampNeg)) rfl (kd_of (show S0[154]? = some (100, 160, List.replicate 160 none) from rfl)) (by decide) hi2 rfl ?_
      refine ev_rn (n := 1) (i2 := 13) (L2 := [some (.ref 0), some (.int p0)]) (st2 := [.int (g.1 154 p0.toNatClampNeg)]) (g2 := g) cdE_284 rfl ?_
      cases h
      exact ev_ret rfl rfl
    · rw [if_neg hi2] at h
      cases h
def f_Mo_octet (p0 : Int32) (g : M2) : Option (Int32) := (if (f_Mo_in p0.toInt64 (0 : Int64) ((g.1 157 38) - (1 : Int32)).toInt64 g) = 0 then some (-1 : Int32) else (if inb p0 200 then some (g.1 171 p0.toNatClampNeg) else none))
theorem e_Mo_octet {Lx : Nat} (p0 : Int32)  (g : M2) {b : Int32} (h : f_Mo_octet p0 g = some b) : Ev Lx 285 cd_285 0 [some (.ref 157), some (.int p0)] [] g (some (.int b), g) := by
  unfold f_Mo_octet at h
  refine ev_rn (n := 8) (i2 := 8) (L2 := [some (.ref 157), some (.int p0)]) (st2 := [.long ((g.1 157 38) - (1 : Int32)).toInt64, .long (0 : Int64), .long p0.toInt64]) (g2 := g) cdE_285 rfl ?_
  refine ev_call rfl cdE_16 rfl rfl rfl (e_Mo_in p0.toInt64 (0 : Int64) ((g.1 157 38) - (1 : Int32)).toInt64  g rfl) ?_
  by_cases hc1 : (f_Mo_in p0.toInt64 (0 : Int64) ((g.1 157 38) - (1 : Int32)).toInt64 g) = 0
  · rw [if_pos hc1] at h
    refine ev_zft cdE_285 rfl (cn_t hc1) ?_
    refine ev_rn (n := 1) (i2 := 16) (L2 := [some (.ref 157), some (.int p0)]) (st2 := [.int (-1 : Int32)]) (g2 := g) cdE_285 rfl ?_
    cases h
    exact ev_ret rfl rfl
  · rw [if_neg hc1] at h
    refine ev_zff rfl (cn_f hc1) ?_
    refine ev_rn (n := 3) (i2 := 13) (L2 := [some (.ref 157), some (.int p0)]) (st2 := [.int p0, .ref 171]) (g2 := g) cdE_285 rfl ?_
    by_cases hi2 : inb p0 200
    · rw [if_pos hi2] at h
      refine ev_baload (v := .int (g.1 171 p0.toNatClampNeg)) rfl (kd_of (show S0[171]? = some (102, 200, List.replicate 200 none) from rfl)) (by decide) hi2 rfl ?_
      refine ev_rn (n := 1) (i2 := 16) (L2 := [some (.ref 157), some (.int p0)]) (st2 := [.int (g.1 171 p0.toNatClampNeg)]) (g2 := g) cdE_285 rfl ?_
      cases h
      exact ev_ret rfl rfl
    · rw [if_neg hi2] at h
      cases h
def f_Da_breaks (p0 : Int32) (g : M2) : Option (Int32 × M2) := (if (f_Pl_has 7 p0 g) = 0 then some ((-2 : Int32), g) else (if (f_Pl_works 7 p0 g) = 0 then some ((-5 : Int32), g) else (bd (uI g 7 3 ((g.1 7 3) ||| ((1 : Int32) <<< (p0 &&& 31)))) fun g3 => (bd (uI g3 0 9 (1 : Int32)) fun g4 => some ((f_Pl_working 7 g4), g4)))))
theorem e_Da_breaks {Lx : Nat} (p0 : Int32)  (g : M2) {b : (Int32 × M2)} (h : f_Da_breaks p0 g = some b) : Ev Lx 286 cd_286 0 [some (.ref 0), some (.int p0)] [] g (some (.int b.1), b.2) := by
  unfold f_Da_breaks at h
  refine ev_rn (n := 4) (i2 := 4) (L2 := [some (.ref 0), some (.int p0)]) (st2 := [.int p0, .ref 7]) (g2 := g) cdE_286 rfl ?_
  refine ev_call rfl cdE_66 rfl rfl rfl (e_Pl_has 7 p0 (by decide) g rfl) ?_
  by_cases hc1 : (f_Pl_has 7 p0 g) = 0
  · rw [if_pos hc1] at h
    refine ev_zff rfl (cn_f (fun q => q hc1)) ?_
    refine ev_rn (n := 1) (i2 := 7) (L2 := [some (.ref 0), some (.int p0)]) (st2 := [.int (-2 : Int32)]) (g2 := g) cdE_286 rfl ?_
    cases h
    exact ev_ret rfl rfl
  · rw [if_neg hc1] at h
    refine ev_zft cdE_286 rfl (cn_t hc1) ?_
    refine ev_rn (n := 4) (i2 := 12) (L2 := [some (.ref 0), some (.int p0)]) (st2 := [.int p0, .ref 7]) (g2 := g) cdE_286 rfl ?_
    refine ev_call rfl cdE_67 rfl rfl rfl (e_Pl_works 7 p0 (by decide) g rfl) ?_
    by_cases hc2 : (f_Pl_works 7 p0 g) = 0
    · rw [if_pos hc2] at h
      refine ev_zff rfl (cn_f (fun q => q hc2)) ?_
      refine ev_rn (n := 1) (i2 := 15) (L2 := [some (.ref 0), some (.int p0)]) (st2 := [.int (-5 : Int32)]) (g2 := g) cdE_286 rfl ?_
      cases h
      exact ev_ret rfl rfl
    · rw [if_neg hc2] at h
      refine ev_zft cdE_286 rfl (cn_t hc2) ?_
      refine ev_rn (n := 9) (i2 := 25) (L2 := [some (.ref 0), some (.int p0)]) (st2 := [.int ((g.1 7 3) ||| ((1 : Int32) <<< (p0 &&& 31))), .ref 7]) (g2 := g) cdE_286 rfl ?_
      refine bd_elim h (fun g3 hg3 h => ?_)
      refine ev_pf (g2 := g3) rfl (rfl : S0[7]? = some _) (by decide) (by rw [hg3] <;> rfl) ?_
      refine ev_rn (n := 2) (i2 := 28) (L2 := [some (.ref 0), some (.int p0)]) (st2 := [.int (1 : Int32), .ref 0]) (g2 := g3) cdE_286 rfl ?_
      refine bd_elim h (fun g4 hg4 h => ?_)
      refine ev_pf (g2 := g4) rfl (rfl : S0[0]? = some _) (by decide) (by rw [hg4] <;> rfl) ?_
      refine ev_rn (n := 3) (i2 := 32) (L2 := [some (.ref 0), some (.int p0)]) (st2 := [.ref 7]) (g2 := g4) cdE_286 rfl ?_
      refine ev_call rfl cdE_58 rfl rfl rfl (e_Pl_working 7 (by decide) g4 rfl) ?_
      cases h
      exact ev_ret rfl rfl
def f_Mo_breaks (p0 : Int32) (g : M2) : Option (Int32 × M2) := ((f_Mo_isElement p0 g).bind fun q1 => (if q1 = 0 then some ((-2 : Int32), g) else ((f_Mo_isBroken p0 g).bind fun q3 => (if q3 = 0 then (if inb ((7 : Int32) + p0) 19 then (bd (uI g 160 ((7 : Int32) + p0).toNatClampNeg (1 : Int32)) fun g5 => ((f_Mo_whole g5).bind fun q6 => some (q6, g5))) else none) else some ((-5 : Int32), g)))))
theorem e_Mo_breaks {Lx : Nat} (p0 : Int32)  (g : M2) {b : (Int32 × M2)} (h : f_Mo_breaks p0 g = some b) : Ev Lx 287 cd_287 0 [some (.ref 157), some (.int p0)] [] g (some (.int b.1), b.2) := by
  unfold f_Mo_breaks at h
  refine ev_rn (n := 2) (i2 := 2) (L2 := [some (.ref 157), some (.int p0)]) (st2 := [.int p0, .ref 157]) (g2 := g) cdE_287 rfl ?_
  obtain ⟨q1, hq1, h⟩ := Option.bind_eq_some_iff.mp h
  refine ev_call rfl cdE_69 rfl rfl rfl (e_Mo_isElement p0  g hq1) ?_
  by_cases hc2 : q1 = 0
  · rw [if_pos hc2] at h
    refine ev_zff rfl (cn_f (fun q => q hc2)) ?_
    refine ev_rn (n := 1) (i2 := 5) (L2 := [some (.ref 157), some (.int p0)]) (st2 := [.int (-2 : Int32)]) (g2 := g) cdE_287 rfl ?_
    cases h
    exact ev_ret rfl rfl
  · rw [if_neg hc2] at h
    refine ev_zft cdE_287 rfl (cn_t hc2) ?_
    refine ev_rn (n := 2) (i2 := 8) (L2 := [some (.ref 157), some (.int p0)]) (st2 := [.int p0, .ref 157]) (g2 := g) cdE_287 rfl ?_
    obtain ⟨q3, hq3, h⟩ := Option.bind_eq_some_iff.mp h
    refine ev_call rfl cdE_61 rfl rfl rfl (e_Mo_isBroken p0  g hq3) ?_
    by_cases hc4 : q3 = 0
    · rw [if_pos hc4] at h
      refine ev_zft cdE_287 rfl (cn_t hc4) ?_
      refine ev_rn (n := 6) (i2 := 18) (L2 := [some (.ref 157), some (.int p0)]) (st2 := [.int (1 : Int32), .int ((7 : Int32) + p0), .ref 160]) (g2 := g) cdE_287 rfl ?_
      by_cases hi7 : inb ((7 : Int32) + p0) 19
      · rw [if_pos hi7] at h
        refine bd_elim h (fun g5 hg5 h => ?_)
        refine ev_iastore (g2 := g5) rfl (show S0[160]? = some (100, 19, List.replicate 19 none) from rfl) (by decide) hi7 (by rw [hg5] <;> rfl) ?_
        refine ev_rn (n := 1) (i2 := 20) (L2 := [some (.ref 157), some (.int p0)]) (st2 := [.ref 157]) (g2 := g5) cdE_287 rfl ?_
        obtain ⟨q6, hq6, h⟩ := Option.bind_eq_some_iff.mp h
        refine ev_call rfl cdE_62 rfl rfl rfl (e_Mo_whole   g5 hq6) ?_
        cases h
        exact ev_ret rfl rfl
      · rw [if_neg hi7] at h
        cases h
    · rw [if_neg hc4] at h
      refine ev_zff rfl (cn_f hc4) ?_
      refine ev_rn (n := 1) (i2 := 11) (L2 := [some (.ref 157), some (.int p0)]) (st2 := [.int (-5 : Int32)]) (g2 := g) cdE_287 rfl ?_
      cases h
      exact ev_ret rfl rfl
def f_Da_mends (p0 : Int32) (g : M2) : Option (Int32 × M2) := (if (f_Pl_has 7 p0 g) = 0 then some ((-2 : Int32), g) else (if (f_Pl_works 7 p0 g) = 0 then (bd (uI g 7 3 ((g.1 7 3) &&& (((1 : Int32) <<< (p0 &&& 31)) ^^^ (-1 : Int32)))) fun g3 => (bd (uI g3 0 9 (1 : Int32)) fun g4 => some ((f_Pl_working 7 g4), g4))) else some ((-5 : Int32), g)))
theorem e_Da_mends {Lx : Nat} (p0 : Int32)  (g : M2) {b : (Int32 × M2)} (h : f_Da_mends p0 g = some b) : Ev Lx 288 cd_288 0 [some (.ref 0), some (.int p0)] [] g (some (.int b.1), b.2) := by
  unfold f_Da_mends at h
  refine ev_rn (n := 4) (i2 := 4) (L2 := [some (.ref 0), some (.int p0)]) (st2 := [.int p0, .ref 7]) (g2 := g) cdE_288 rfl ?_
  refine ev_call rfl cdE_66 rfl rfl rfl (e_Pl_has 7 p0 (by decide) g rfl) ?_
  by_cases hc1 : (f_Pl_has 7 p0 g) = 0
  · rw [if_pos hc1] at h
    refine ev_zff rfl (cn_f (fun q => q hc1)) ?_
    refine ev_rn (n := 1) (i2 := 7) (L2 := [some (.ref 0), some (.int p0)]) (st2 := [.int (-2 : Int32)]) (g2 := g) cdE_288 rfl ?_
    cases h
    exact ev_ret rfl rfl
  · rw [if_neg hc1] at h
    refine ev_zft cdE_288 rfl (cn_t hc1) ?_
    refine ev_rn (n := 4) (i2 := 12) (L2 := [some (.ref 0), some (.int p0)]) (st2 := [.int p0, .ref 7]) (g2 := g) cdE_288 rfl ?_
    refine ev_call rfl cdE_67 rfl rfl rfl (e_Pl_works 7 p0 (by decide) g rfl) ?_
    by_cases hc2 : (f_Pl_works 7 p0 g) = 0
    · rw [if_pos hc2] at h
      refine ev_zft cdE_288 rfl (cn_t hc2) ?_
      refine ev_rn (n := 11) (i2 := 27) (L2 := [some (.ref 0), some (.int p0)]) (st2 := [.int ((g.1 7 3) &&& (((1 : Int32) <<< (p0 &&& 31)) ^^^ (-1 : Int32))), .ref 7]) (g2 := g) cdE_288 rfl ?_
      refine bd_elim h (fun g3 hg3 h => ?_)
      refine ev_pf (g2 := g3) rfl (rfl : S0[7]? = some _) (by decide) (by rw [hg3] <;> rfl) ?_
      refine ev_rn (n := 2) (i2 := 30) (L2 := [some (.ref 0), some (.int p0)]) (st2 := [.int (1 : Int32), .ref 0]) (g2 := g3) cdE_288 rfl ?_
      refine bd_elim h (fun g4 hg4 h => ?_)
      refine ev_pf (g2 := g4) rfl (rfl : S0[0]? = some _) (by decide) (by rw [hg4] <;> rfl) ?_
      refine ev_rn (n := 3) (i2 := 34) (L2 := [some (.ref 0), some (.int p0)]) (st2 := [.ref 7]) (g2 := g4) cdE_288 rfl ?_
      refine ev_call rfl cdE_58 rfl rfl rfl (e_Pl_working 7 (by decide) g4 rfl) ?_
      cases h
      exact ev_ret rfl rfl
    · rw [if_neg hc2] at h
      refine ev_zff rfl (cn_f hc2) ?_
      refine ev_rn (n := 1) (i2 := 15) (L2 := [some (.ref 0), some (.int p0)]) (st2 := [.int (-5 : Int32)]) (g2 := g) cdE_288 rfl ?_
      cases h
      exact ev_ret rfl rfl
def f_Mo_mends (p0 : Int32) (g : M2) : Option (Int32 × M2) := ((f_Mo_isElement p0 g).bind fun q1 => (if q1 = 0 then some ((-2 : Int32), g) else ((f_Mo_isBroken p0 g).bind fun q3 => (if q3 = 0 then some ((-5 : Int32), g) else (if inb ((7 : Int32) + p0) 19 then (bd (uI g 160 ((7 : Int32) + p0).toNatClampNeg (0 : Int32)) fun g5 => ((f_Mo_whole g5).bind fun q6 => some (q6, g5))) else none)))))
theorem e_Mo_mends {Lx : Nat} (p0 : Int32)  (g : M2) {b : (Int32 × M2)} (h : f_Mo_mends p0 g = some b) : Ev Lx 289 cd_289 0 [some (.ref 157), some (.int p0)] [] g (some (.int b.1), b.2) := by
  unfold f_Mo_mends at h
  refine ev_rn (n := 2) (i2 := 2) (L2 := [some (.ref 157), some (.int p0)]) (st2 := [.int p0, .ref 157]) (g2 := g) cdE_289 rfl ?_
  obtain ⟨q1, hq1, h⟩ := Option.bind_eq_some_iff.mp h
  refine ev_call rfl cdE_69 rfl rfl rfl (e_Mo_isElement p0  g hq1) ?_
  by_cases hc2 : q1 = 0
  · rw [if_pos hc2] at h
    refine ev_zff rfl (cn_f (fun q => q hc2)) ?_
    refine ev_rn (n := 1) (i2 := 5) (L2 := [some (.ref 157), some (.int p0)]) (st2 := [.int (-2 : Int32)]) (g2 := g) cdE_289 rfl ?_
    cases h
    exact ev_ret rfl rfl
  · rw [if_neg hc2] at h
    refine ev_zft cdE_289 rfl (cn_t hc2) ?_
    refine ev_rn (n := 2) (i2 := 8) (L2 := [some (.ref 157), some (.int p0)]) (st2 := [.int p0, .ref 157]) (g2 := g) cdE_289 rfl ?_
    obtain ⟨q3, hq3, h⟩ := Option.bind_eq_some_iff.mp h
    refine ev_call rfl cdE_61 rfl rfl rfl (e_Mo_isBroken p0  g hq3) ?_
    by_cases hc4 : q3 = 0
    · rw [if_pos hc4] at h
      refine ev_zff rfl (cn_f (fun q => q hc4)) ?_
      refine ev_rn (n := 1) (i2 := 11) (L2 := [some (.ref 157), some (.int p0)]) (st2 := [.int (-5 : Int32)]) (g2 := g) cdE_289 rfl ?_
      cases h
      exact ev_ret rfl rfl
    · rw [if_neg hc4] at h
      refine ev_zft cdE_289 rfl (cn_t hc4) ?_
      refine ev_rn (n := 6) (i2 := 18) (L2 := [some (.ref 157), some (.int p0)]) (st2 := [.int (0 : Int32), .int ((7 : Int32) + p0), .ref 160]) (g2 := g) cdE_289 rfl ?_
      by_cases hi7 : inb ((7 : Int32) + p0) 19
      · rw [if_pos hi7] at h
        refine bd_elim h (fun g5 hg5 h => ?_)
        refine ev_iastore (g2 := g5) rfl (show S0[160]? = some (100, 19, List.replicate 19 none) from rfl) (by decide) hi7 (by rw [hg5] <;> rfl) ?_
        refine ev_rn (n := 1) (i2 := 20) (L2 := [some (.ref 157), some (.int p0)]) (st2 := [.ref 157]) (g2 := g5) cdE_289 rfl ?_
        obtain ⟨q6, hq6, h⟩ := Option.bind_eq_some_iff.mp h
        refine ev_call rfl cdE_62 rfl rfl rfl (e_Mo_whole   g5 hq6) ?_
        cases h
        exact ev_ret rfl rfl
      · rw [if_neg hi7] at h
        cases h
def f_Da_moves (p0 : Int32) (p1 : Int32) (g : M2) : Option (Int32 × M2) := (if (f_Pl_has 7 p0 g) = 0 then some ((-2 : Int32), g) else (if (f_Da_isAmong p1 (12 : Int32) g) = 0 then some ((-2 : Int32), g) else ((f_Pl_elementAt 7 p1 g).bind fun q3 => (if q3 = (-1 : Int32) then (if inb p0 5 then (if inb p0 5 then (bd (uI g 8 p0.toNatClampNeg p1) fun g6 => (bd (uI g6 0 9 (1 : Int32)) fun g7 => some ((g.1 8 p0.toNatClampNeg), g7))) else none) else none) else some ((-5 : Int32), g)))))
theorem e_Da_moves {Lx : Nat} (p0 : Int32) (p1 : Int32)  (g : M2) {b : (Int32 × M2)} (h : f_Da_moves p0 p1 g = some b) : Ev Lx 290 cd_290 0 [some (.ref 0), some (.int p0), some (.int p1)] [] g (some (.int b.1), b.2) := by
  unfold f_Da_moves at h
  refine ev_rn (n := 4) (i2 := 4) (L2 := [some (.ref 0), some (.int p0), some (.int p1)]) (st2 := [.int p0, .ref 7]) (g2 := g) cdE_290 rfl ?_
  refine ev_call rfl cdE_66 rfl rfl rfl (e_Pl_has 7 p0 (by decide) g rfl) ?_
  by_cases hc1 : (f_Pl_has 7 p0 g) = 0
  · rw [if_pos hc1] at h
    refine ev_zft cdE_290 rfl (cn_t hc1) ?_
    refine ev_rn (n := 1) (i2 := 11) (L2 := [some (.ref 0), some (.int p0), some (.int p1)]) (st2 := [.int (-2 : Int32)]) (g2 := g) cdE_290 rfl ?_
    cases h
    exact ev_ret rfl rfl
  · rw [if_neg hc1] at h
    refine ev_zff rfl (cn_f hc1) ?_
    refine ev_rn (n := 2) (i2 := 8) (L2 := [some (.ref 0), some (.int p0), some (.int p1)]) (st2 := [.int (12 : Int32), .int p1]) (g2 := g) cdE_290 rfl ?_
    refine ev_call rfl cdE_65 rfl rfl rfl (e_Da_isAmong p1 (12 : Int32)  g rfl) ?_
    by_cases hc2 : (f_Da_isAmong p1 (12 : Int32) g) = 0
    · rw [if_pos hc2] at h
      refine ev_zff rfl (cn_f (fun q => q hc2)) ?_
      refine ev_rn (n := 1) (i2 := 11) (L2 := [some (.ref 0), some (.int p0), some (.int p1)]) (st2 := [.int (-2 : Int32)]) (g2 := g) cdE_290 rfl ?_
      cases h
      exact ev_ret rfl rfl
    · rw [if_neg hc2] at h
      refine ev_zft cdE_290 rfl (cn_t hc2) ?_
      refine ev_rn (n := 4) (i2 := 16) (L2 := [some (.ref 0), some (.int p0), some (.int p1)]) (st2 := [.int p1, .ref 7]) (g2 := g) cdE_290 rfl ?_
      obtain ⟨q3, hq3, h⟩ := Option.bind_eq_some_iff.mp h
      refine ev_call rfl cdE_28 rfl rfl rfl (e_Pl_elementAt 7 p1 (by decide) g hq3) ?_
      refine ev_rn (n := 1) (i2 := 18) (L2 := [some (.ref 0), some (.int p0), some (.int p1)]) (st2 := [.int (-1 : Int32), .int q3]) (g2 := g) cdE_290 rfl ?_
      by_cases hc4 : q3 = (-1 : Int32)
      · rw [if_pos hc4] at h
        refine ev_ift cdE_290 rfl (cn_t hc4) ?_
        refine ev_rn (n := 5) (i2 := 26) (L2 := [some (.ref 0), some (.int p0), some (.int p1)]) (st2 := [.int p0, .ref 8]) (g2 := g) cdE_290 rfl ?_
        by_cases hi5 : inb p0 5
        · rw [if_pos hi5] at h
          refine ev_iaload (v := .int (g.1 8 p0.toNatClampNeg)) rfl (kd_of (show S0[8]? = some (100, 5, List.replicate 5 none) from rfl)) (by decide) hi5 rfl ?_
          refine ev_rn (n := 7) (i2 := 34) (L2 := [some (.ref 0), some (.int p0), some (.int p1), some (.int (g.1 8 p0.toNatClampNeg))]) (st2 := [.int p1, .int p0, .ref 8]) (g2 := g) cdE_290 rfl ?_
          by_cases hi8 : inb p0 5
          · rw [if_pos hi8] at h
            refine bd_elim h (fun g6 hg6 h => ?_)
            refine ev_iastore (g2 := g6) rfl (show S0[8]? = some (100, 5, List.replicate 5 none) from rfl) (by decide) hi8 (by rw [hg6] <;> rfl) ?_
            refine ev_rn (n := 2) (i2 := 37) (L2 := [some (.ref 0), some (.int p0), some (.int p1), some (.int (g.1 8 p0.toNatClampNeg))]) (st2 := [.int (1 : Int32), .ref 0]) (g2 := g6) cdE_290 rfl ?_
            refine bd_elim h (fun g7 hg7 h => ?_)
            refine ev_pf (g2 := g7) rfl (rfl : S0[0]? = some _) (by decide) (by rw [hg7] <;> rfl) ?_
            refine ev_rn (n := 1) (i2 := 39) (L2 := [some (.ref 0), some (.int p0), some (.int p1), some (.int (g.1 8 p0.toNatClampNeg))]) (st2 := [.int (g.1 8 p0.toNatClampNeg)]) (g2 := g7) cdE_290 rfl ?_
            cases h
            exact ev_ret rfl rfl
          · rw [if_neg hi8] at h
            cases h
        · rw [if_neg hi5] at h
          cases h
      · rw [if_neg hc4] at h
        refine ev_iff rfl (cn_f hc4) ?_
        refine ev_rn (n := 1) (i2 := 20) (L2 := [some (.ref 0), some (.int p0), some (.int p1)]) (st2 := [.int (-5 : Int32)]) (g2 := g) cdE_290 rfl ?_
        cases h
        exact ev_ret rfl rfl
def f_Mo_moves (p0 : Int32) (p1 : Int32) (g : M2) : Option (Int32 × M2) := ((f_Mo_isElement p0 g).bind fun q1 => (if q1 = 0 then some ((-2 : Int32), g) else (if (f_Mo_in p1.toInt64 (0 : Int64) (11 : Int64) g) = 0 then some ((-2 : Int32), g) else ((f_Mo_isTaken p1 g).bind fun q4 => (if q4 = 0 then (if inb ((2 : Int32) + p0) 19 then (if inb ((2 : Int32) + p0) 19 then (bd (uI g 160 ((2 : Int32) + p0).toNatClampNeg p1) fun g7 => some ((g.1 160 ((2 : Int32) + p0).toNatClampNeg), g7)) else none) else none) else some ((-5 : Int32), g))))))
theorem e_Mo_moves {Lx : Nat} (p0 : Int32) (p1 : Int32)  (g : M2) {b : (Int32 × M2)} (h : f_Mo_moves p0 p1 g = some b) : Ev Lx 291 cd_291 0 [some (.ref 157), some (.int p0), some (.int p1)] [] g (some (.int b.1), b.2) := by
  unfold f_Mo_moves at h
  refine ev_rn (n := 2) (i2 := 2) (L2 := [some (.ref 157), some (.int p0), some (.int p1)]) (st2 := [.int p0, .ref 157]) (g2 := g) cdE_291 rfl ?_
  obtain ⟨q1, hq1, h⟩ := Option.bind_eq_some_iff.mp h
  refine ev_call rfl cdE_69 rfl rfl rfl (e_Mo_isElement p0  g hq1) ?_
  by_cases hc2 : q1 = 0
  · rw [if_pos hc2] at h
    refine ev_zft cdE_291 rfl (cn_t hc2) ?_
    refine ev_rn (n := 1) (i2 := 11) (L2 := [some (.ref 157), some (.int p0), some (.int p1)]) (st2 := [.int (-2 : Int32)]) (g2 := g) cdE_291 rfl ?_
    cases h
    exact ev_ret rfl rfl
  · rw [if_neg hc2] at h
    refine ev_zff rfl (cn_f hc2) ?_
    refine ev_rn (n := 4) (i2 := 8) (L2 := [some (.ref 157), some (.int p0), some (.int p1)]) (st2 := [.long (11 : Int64), .long (0 : Int64), .long p1.toInt64]) (g2 := g) cdE_291 rfl ?_
    refine ev_call rfl cdE_16 rfl rfl rfl (e_Mo_in p1.toInt64 (0 : Int64) (11 : Int64)  g rfl) ?_
    by_cases hc3 : (f_Mo_in p1.toInt64 (0 : Int64) (11 : Int64) g) = 0
    · rw [if_pos hc3] at h
      refine ev_zff rfl (cn_f (fun q => q hc3)) ?_
      refine ev_rn (n := 1) (i2 := 11) (L2 := [some (.ref 157), some (.int p0), some (.int p1)]) (st2 := [.int (-2 : Int32)]) (g2 := g) cdE_291 rfl ?_
      cases h
      exact ev_ret rfl rfl
    · rw [if_neg hc3] at h
      refine ev_zft cdE_291 rfl (cn_t hc3) ?_
      refine ev_rn (n := 2) (i2 := 14) (L2 := [some (.ref 157), some (.int p0), some (.int p1)]) (st2 := [.int p1, .ref 157]) (g2 := g) cdE_291 rfl ?_
      obtain ⟨q4, hq4, h⟩ := Option.bind_eq_some_iff.mp h
      refine ev_call rfl cdE_271 rfl rfl rfl (e_Mo_isTaken p1  g hq4) ?_
      by_cases hc5 : q4 = 0
      · rw [if_pos hc5] at h
        refine ev_zft cdE_291 rfl (cn_t hc5) ?_
        refine ev_rn (n := 5) (i2 := 23) (L2 := [some (.ref 157), some (.int p0), some (.int p1)]) (st2 := [.int ((2 : Int32) + p0), .ref 160]) (g2 := g) cdE_291 rfl ?_
        by_cases hi6 : inb ((2 : Int32) + p0) 19
        · rw [if_pos hi6] at h
          refine ev_iaload (v := .int (g.1 160 ((2 : Int32) + p0).toNatClampNeg)) rfl (kd_of (show S0[160]? = some (100, 19, List.replicate 19 none) from rfl)) (by decide) hi6 rfl ?_
          refine ev_rn (n := 7) (i2 := 31) (L2 := [some (.ref 157), some (.int p0), some (.int p1), some (.int (g.1 160 ((2 : Int32) + p0).toNatClampNeg))]) (st2 := [.int p1, .int ((2 : Int32) + p0), .ref 160]) (g2 := g) cdE_291 rfl ?_
          by_cases hi8 : inb ((2 : Int32) + p0) 19
          · rw [if_pos hi8] at h
            refine bd_elim h (fun g7 hg7 h => ?_)
            refine ev_iastore (g2 := g7) rfl (show S0[160]? = some (100, 19, List.replicate 19 none) from rfl) (by decide) hi8 (by rw [hg7] <;> rfl) ?_
            refine ev_rn (n := 1) (i2 := 33) (L2 := [some (.ref 157), some (.int p0), some (.int p1), some (.int (g.1 160 ((2 : Int32) + p0).toNatClampNeg))]) (st2 := [.int (g.1 160 ((2 : Int32) + p0).toNatClampNeg)]) (g2 := g7) cdE_291 rfl ?_
            cases h
            exact ev_ret rfl rfl
          · rw [if_neg hi8] at h
            cases h
        · rw [if_neg hi6] at h
          cases h
      · rw [if_neg hc5] at h
        refine ev_zff rfl (cn_f hc5) ?_
        refine ev_rn (n := 1) (i2 := 17) (L2 := [some (.ref 157), some (.int p0), some (.int p1)]) (st2 := [.int (-5 : Int32)]) (g2 := g) cdE_291 rfl ?_
        cases h
        exact ev_ret rfl rfl
def f_Pl_isNone (a0 : Nat) (g : M2) : Int32 := (if (g.1 a0 6) = 0 then (1 : Int32) else (0 : Int32))
theorem e_Pl_isNone {Lx : Nat} (a0 : Nat) (ha0 : IsPlan a0) (g : M2) {b : Int32} (h : f_Pl_isNone a0 g = b) : Ev Lx 292 cd_292 0 [some (.ref a0)] [] g (some (.int b), g) := by
  unfold f_Pl_isNone at h
  refine ev_rn (n := 1) (i2 := 1) (L2 := [some (.ref a0)]) (st2 := [.ref a0]) (g2 := g) cdE_292 rfl ?_
  refine ev_gf (v := .int (g.1 a0 6)) rfl (pl_at ha0) (by decide) rfl ?_
  by_cases hc1 : (g.1 a0 6) = 0
  · rw [if_pos hc1] at h
    refine ev_zff rfl (cn_f (fun q => q hc1)) ?_
    refine ev_rn (n := 2) (i2 := 6) (L2 := [some (.ref a0)]) (st2 := [.int (1 : Int32)]) (g2 := g) cdE_292 rfl ?_
    subst h
    exact ev_ret rfl rt_1
  · rw [if_neg hc1] at h
    refine ev_zft cdE_292 rfl (cn_t hc1) ?_
    refine ev_rn (n := 1) (i2 := 6) (L2 := [some (.ref a0)]) (st2 := [.int (0 : Int32)]) (g2 := g) cdE_292 rfl ?_
    subst h
    exact ev_ret rfl rt_0
def f_Da_look (p0 : Int32) (g : M2) : Option (Int32 × M2) := (if (f_Da_isDirection p0 g) = 0 then some ((-2 : Int32), g) else (if (f_Pl_isNone 7 g) = 0 then (if (g.1 7 4) = p0 then some ((-5 : Int32), g) else ((f_Pl_turnTo 7 p0 g).bind fun q4 => (bd (uI q4 0 9 (1 : Int32)) fun g5 => some ((g.1 7 4), g5)))) else some ((-2 : Int32), g)))
theorem e_Da_look {Lx : Nat} (p0 : Int32)  (g : M2) {b : (Int32 × M2)} (h : f_Da_look p0 g = some b) : Ev Lx 293 cd_293 0 [some (.ref 0), some (.int p0)] [] g (some (.int b.1), b.2) := by
  unfold f_Da_look at h
  refine ev_rn (n := 1) (i2 := 1) (L2 := [some (.ref 0), some (.int p0)]) (st2 := [.int p0]) (g2 := g) cdE_293 rfl ?_
  refine ev_call rfl cdE_71 rfl rfl rfl (e_Da_isDirection p0  g rfl) ?_
  by_cases hc1 : (f_Da_isDirection p0 g) = 0
  · rw [if_pos hc1] at h
    refine ev_zft cdE_293 rfl (cn_t hc1) ?_
    refine ev_rn (n := 1) (i2 := 9) (L2 := [some (.ref 0), some (.int p0)]) (st2 := [.int (-2 : Int32)]) (g2 := g) cdE_293 rfl ?_
    cases h
    exact ev_ret rfl rfl
  · rw [if_neg hc1] at h
    refine ev_zff rfl (cn_f hc1) ?_
    refine ev_rn (n := 3) (i2 := 6) (L2 := [some (.ref 0), some (.int p0)]) (st2 := [.ref 7]) (g2 := g) cdE_293 rfl ?_
    refine ev_call rfl cdE_292 rfl rfl rfl (e_Pl_isNone 7 (by decide) g rfl) ?_
    by_cases hc2 : (f_Pl_isNone 7 g) = 0
    · rw [if_pos hc2] at h
      refine ev_zft cdE_293 rfl (cn_t hc2) ?_
      refine ev_rn (n := 5) (i2 := 15) (L2 := [some (.ref 0), some (.int p0)]) (st2 := [.int p0, .int (g.1 7 4)]) (g2 := g) cdE_293 rfl ?_
      by_cases hc3 : (g.1 7 4) = p0
      · rw [if_pos hc3] at h
        refine ev_iff rfl (cn_f (fun q => q hc3)) ?_
        refine ev_rn (n := 1) (i2 := 17) (L2 := [some (.ref 0), some (.int p0)]) (st2 := [.int (-5 : Int32)]) (g2 := g) cdE_293 rfl ?_
        cases h
        exact ev_ret rfl rfl
      · rw [if_neg hc3] at h
        refine ev_ift cdE_293 rfl (cn_t hc3) ?_
        refine ev_rn (n := 9) (i2 := 27) (L2 := [some (.ref 0), some (.int p0), some (.int (g.1 7 4))]) (st2 := [.int p0, .ref 7]) (g2 := g) cdE_293 rfl ?_
        obtain ⟨q4, hq4, h⟩ := Option.bind_eq_some_iff.mp h
        refine ev_call rfl cdE_250 rfl rfl rfl (e_Pl_turnTo 7 p0 (by decide) g hq4) ?_
        refine ev_rn (n := 2) (i2 := 30) (L2 := [some (.ref 0), some (.int p0), some (.int (g.1 7 4))]) (st2 := [.int (1 : Int32), .ref 0]) (g2 := q4) cdE_293 rfl ?_
        refine bd_elim h (fun g5 hg5 h => ?_)
        refine ev_pf (g2 := g5) rfl (rfl : S0[0]? = some _) (by decide) (by rw [hg5] <;> rfl) ?_
        refine ev_rn (n := 1) (i2 := 32) (L2 := [some (.ref 0), some (.int p0), some (.int (g.1 7 4))]) (st2 := [.int (g.1 7 4)]) (g2 := g5) cdE_293 rfl ?_
        cases h
        exact ev_ret rfl rfl
    · rw [if_neg hc2] at h
      refine ev_zff rfl (cn_f hc2) ?_
      refine ev_rn (n := 1) (i2 := 9) (L2 := [some (.ref 0), some (.int p0)]) (st2 := [.int (-2 : Int32)]) (g2 := g) cdE_293 rfl ?_
      cases h
      exact ev_ret rfl rfl
def f_Mo_isArray  (g : M2) : Option (Int32) := (if (g.1 160 18) ≤ 0 then some (0 : Int32) else some (1 : Int32))
theorem e_Mo_isArray {Lx : Nat}   (g : M2) {b : Int32} (h : f_Mo_isArray  g = some b) : Ev Lx 294 cd_294 0 [some (.ref 157)] [] g (some (.int b), g) := by
  unfold f_Mo_isArray at h
  refine ev_rn (n := 3) (i2 := 3) (L2 := [some (.ref 157)]) (st2 := [.int (18 : Int32), .ref 160]) (g2 := g) cdE_294 rfl ?_
  refine ev_iaload (v := .int (g.1 160 18)) rfl (kd_of (show S0[160]? = some (100, 19, List.replicate 19 none) from rfl)) (by decide) ⟨by decide, by decide⟩ rfl ?_
  by_cases hc1 : (g.1 160 18) ≤ 0
  · rw [if_pos hc1] at h
    refine ev_zft cdE_294 rfl (cn_t hc1) ?_
    refine ev_rn (n := 1) (i2 := 8) (L2 := [some (.ref 157)]) (st2 := [.int (0 : Int32)]) (g2 := g) cdE_294 rfl ?_
    cases h
    exact ev_ret rfl rt_0
  · rw [if_neg hc1] at h
    refine ev_zff rfl (cn_f hc1) ?_
    refine ev_rn (n := 2) (i2 := 8) (L2 := [some (.ref 157)]) (st2 := [.int (1 : Int32)]) (g2 := g) cdE_294 rfl ?_
    cases h
    exact ev_ret rfl rt_1
def b_Mo_takesOut_2  (v2 : Int32) (g : M2) : Option ((Int32 × M2) ⊕ M2) := (if (g.1 160 13) ≤ (v2 + (1 : Int32)) then some (.inr g) else (if inb (((14 : Int32) + v2) + (1 : Int32)) 19 then (if inb ((14 : Int32) + v2) 19 then (bd (uI g 160 ((14 : Int32) + v2).toNatClampNeg (g.1 160 (((14 : Int32) + v2) + (1 : Int32)).toNatClampNeg)) fun g3 => some (.inl ((v2 + (1 : Int32)), g3))) else none) else none))
theorem tb_Mo_takesOut_2 {Lx : Nat}   (v2 : Int32) (g : M2) {b : (Int32 × M2) ⊕ M2} {o : Option Value × M2} (h : b_Mo_takesOut_2 v2 g = some b) (hb : Sum.elim (fun s => Ev Lx 295 cd_295 2 [some (.ref 157), none, some (.int s.1)] [] s.2 o) (fun e => Ev Lx 295 cd_295 26 [some (.ref 157)] [] e o) b) : Ev Lx 295 cd_295 2 [some (.ref 157), none, some (.int v2)] [] g o := by
  unfold b_Mo_takesOut_2 at h
  refine ev_rn (n := 6) (i2 := 8) (L2 := [some (.ref 157), none, some (.int v2)]) (st2 := [.int (13 : Int32), .ref 160, .int (v2 + (1 : Int32))]) (g2 := g) cdE_295 rfl ?_
  refine ev_iaload (v := .int (g.1 160 13)) rfl (kd_of (show S0[160]? = some (100, 19, List.replicate 19 none) from rfl)) (by decide) ⟨by decide, by decide⟩ rfl ?_
  by_cases hc1 : (g.1 160 13) ≤ (v2 + (1 : Int32))
  · rw [if_pos hc1] at h
    refine ev_ift cdE_295 rfl (cn_t hc1) ?_
    cases h
    exact ev_wk (L := [some (.ref 157)]) hb ⟨rfl, trivial⟩
  · rw [if_neg hc1] at h
    refine ev_iff rfl (cn_f hc1) ?_
    refine ev_rn (n := 12) (i2 := 22) (L2 := [some (.ref 157), none, some (.int v2)]) (st2 := [.int (((14 : Int32) + v2) + (1 : Int32)), .ref 160, .int ((14 : Int32) + v2), .ref 160]) (g2 := g) cdE_295 rfl ?_
    by_cases hi2 : inb (((14 : Int32) + v2) + (1 : Int32)) 19
    · rw [if_pos hi2] at h
      refine ev_iaload (v := .int (g.1 160 (((14 : Int32) + v2) + (1 : Int32)).toNatClampNeg)) rfl (kd_of (show S0[160]? = some (100, 19, List.replicate 19 none) from rfl)) (by decide) hi2 rfl ?_
      by_cases hi4 : inb ((14 : Int32) + v2) 19
      · rw [if_pos hi4] at h
        refine bd_elim h (fun g3 hg3 h => ?_)
        refine ev_iastore (g2 := g3) rfl (show S0[160]? = some (100, 19, List.replicate 19 none) from rfl) (by decide) hi4 (by rw [hg3] <;> rfl) ?_
        refine ev_rn (n := 2) (i2 := 2) (L2 := [some (.ref 157), none, some (.int (v2 + (1 : Int32)))]) (st2 := []) (g2 := g3) cdE_295 rfl ?_
        cases h
        exact ev_wk (L := [some (.ref 157), none, some (.int (v2 + (1 : Int32)))]) hb ⟨rfl, ⟨rfl, trivial⟩⟩
      · rw [if_neg hi4] at h
        cases h
    · rw [if_neg hi2] at h
      cases h
def f_Mo_takesOut (p0 : Int32) (g : M2) : Option (M2) := ((lp (fun s => b_Mo_takesOut_2  s.1 s.2) 5000 (p0, g)).bind fun e5 => (bd (uI e5 160 13 ((e5.1 160 13) - (1 : Int32))) fun g6 => some g6))
theorem e_Mo_takesOut {Lx : Nat} (p0 : Int32)  (g : M2) {b : M2} (h : f_Mo_takesOut p0 g = some b) : Ev Lx 295 cd_295 0 [some (.ref 157), some (.int p0)] [] g (none, b) := by
  unfold f_Mo_takesOut at h
  refine ev_rn (n := 2) (i2 := 2) (L2 := [some (.ref 157), some (.int p0), some (.int p0)]) (st2 := []) (g2 := g) cdE_295 rfl ?_
  obtain ⟨e5, he5, h⟩ := Option.bind_eq_some_iff.mp h
  have hX7 : Ev Lx 295 cd_295 26 [some (.ref 157)] [] e5 (none, b) := by
    refine ev_rn (n := 4) (i2 := 30) (L2 := [some (.ref 157)]) (st2 := [.int (13 : Int32), .ref 160, .int (13 : Int32), .ref 160]) (g2 := e5) cdE_295 rfl ?_
    refine ev_iaload (v := .int (e5.1 160 13)) rfl (kd_of (show S0[160]? = some (100, 19, List.replicate 19 none) from rfl)) (by decide) ⟨by decide, by decide⟩ rfl ?_
    refine ev_rn (n := 2) (i2 := 33) (L2 := [some (.ref 157)]) (st2 := [.int ((e5.1 160 13) - (1 : Int32)), .int (13 : Int32), .ref 160]) (g2 := e5) cdE_295 rfl ?_
    refine bd_elim h (fun g6 hg6 h => ?_)
    refine ev_iastore (g2 := g6) rfl (show S0[160]? = some (100, 19, List.replicate 19 none) from rfl) (by decide) ⟨by decide, by decide⟩ (by rw [hg6] <;> rfl) ?_
    cases h
    exact ev_ret rfl rfl
  exact ev_wk (L := [some (.ref 157), none, some (.int p0)]) (lp_ind (P := (fun (s : (Int32 × M2)) => Ev Lx 295 cd_295 2 [some (.ref 157), none, some (.int s.1)] [] s.2 (none, b))) (fun s s2 hs hP => tb_Mo_takesOut_2   s.1 s.2 (b := .inl s2) hs hP) (fun s hs => tb_Mo_takesOut_2   s.1 s.2 (b := .inr e5) hs hX7) _ _ he5) ⟨rfl, ⟨rfl, trivial⟩⟩
def f_Mo_look (p0 : Int32) (g : M2) : Option (Int32 × M2) := ((f_Mo_isArray g).bind fun q1 => (if q1 = 0 then some ((-2 : Int32), g) else (if (f_Mo_isDirection p0 g) = 0 then some ((-2 : Int32), g) else ((f_Mo_lookNow g).bind fun q4 => (if q4 = p0 then some ((-5 : Int32), g) else ((f_Mo_deafAt p0 g).bind fun q6 => (if q6 = (-1 : Int32) then (bd (uI g 160 12 (p0 + (1 : Int32))) fun g8 => some (q4, g8)) else ((f_Mo_deafAt p0 g).bind fun q9 => ((f_Mo_takesOut q9 g).bind fun q10 => (bd (uI q10 160 12 (p0 + (1 : Int32))) fun g11 => some (q4, g11)))))))))))
theorem e_Mo_look {Lx : Nat} (p0 : Int32)  (g : M2) {b : (Int32 × M2)} (h : f_Mo_look p0 g = some b) : Ev Lx 296 cd_296 0 [some (.ref 157), some (.int p0)] [] g (some (.int b.1), b.2) := by
  unfold f_Mo_look at h
  refine ev_rn (n := 1) (i2 := 1) (L2 := [some (.ref 157), some (.int p0)]) (st2 := [.ref 157]) (g2 := g) cdE_296 rfl ?_
  obtain ⟨q1, hq1, h⟩ := Option.bind_eq_some_iff.mp h
  refine ev_call rfl cdE_294 rfl rfl rfl (e_Mo_isArray   g hq1) ?_
  by_cases hc2 : q1 = 0
  · rw [if_pos hc2] at h
    refine ev_zft cdE_296 rfl (cn_t hc2) ?_
    refine ev_rn (n := 1) (i2 := 7) (L2 := [some (.ref 157), some (.int p0)]) (st2 := [.int (-2 : Int32)]) (g2 := g) cdE_296 rfl ?_
    cases h
    exact ev_ret rfl rfl
  · rw [if_neg hc2] at h
    refine ev_zff rfl (cn_f hc2) ?_
    refine ev_rn (n := 1) (i2 := 4) (L2 := [some (.ref 157), some (.int p0)]) (st2 := [.int p0]) (g2 := g) cdE_296 rfl ?_
    refine ev_call rfl cdE_73 rfl rfl rfl (e_Mo_isDirection p0  g rfl) ?_
    by_cases hc3 : (f_Mo_isDirection p0 g) = 0
    · rw [if_pos hc3] at h
      refine ev_zff rfl (cn_f (fun q => q hc3)) ?_
      refine ev_rn (n := 1) (i2 := 7) (L2 := [some (.ref 157), some (.int p0)]) (st2 := [.int (-2 : Int32)]) (g2 := g) cdE_296 rfl ?_
      cases h
      exact ev_ret rfl rfl
    · rw [if_neg hc3] at h
      refine ev_zft cdE_296 rfl (cn_t hc3) ?_
      refine ev_rn (n := 1) (i2 := 9) (L2 := [some (.ref 157), some (.int p0)]) (st2 := [.ref 157]) (g2 := g) cdE_296 rfl ?_
      obtain ⟨q4, hq4, h⟩ := Option.bind_eq_some_iff.mp h
      refine ev_call rfl cdE_63 rfl rfl rfl (e_Mo_lookNow   g hq4) ?_
      refine ev_rn (n := 3) (i2 := 13) (L2 := [some (.ref 157), some (.int p0), some (.int q4)]) (st2 := [.int p0, .int q4]) (g2 := g) cdE_296 rfl ?_
      by_cases hc5 : q4 = p0
      · rw [if_pos hc5] at h
        refine ev_iff rfl (cn_f (fun q => q hc5)) ?_
        refine ev_rn (n := 1) (i2 := 15) (L2 := [some (.ref 157), some (.int p0), some (.int q4)]) (st2 := [.int (-5 : Int32)]) (g2 := g) cdE_296 rfl ?_
        cases h
        exact ev_ret rfl rfl
      · rw [if_neg hc5] at h
        refine ev_ift cdE_296 rfl (cn_t hc5) ?_
        refine ev_rn (n := 2) (i2 := 18) (L2 := [some (.ref 157), some (.int p0), some (.int q4)]) (st2 := [.int p0, .ref 157]) (g2 := g) cdE_296 rfl ?_
        obtain ⟨q6, hq6, h⟩ := Option.bind_eq_some_iff.mp h
        refine ev_call rfl cdE_182 rfl rfl rfl (e_Mo_deafAt p0  g hq6) ?_
        refine ev_rn (n := 1) (i2 := 20) (L2 := [some (.ref 157), some (.int p0), some (.int q4)]) (st2 := [.int (-1 : Int32), .int q6]) (g2 := g) cdE_296 rfl ?_
        by_cases hc7 : q6 = (-1 : Int32)
        · rw [if_pos hc7] at h
          refine ev_ift cdE_296 rfl (cn_t hc7) ?_
          refine ev_rn (n := 6) (i2 := 32) (L2 := [some (.ref 157), some (.int p0), some (.int q4)]) (st2 := [.int (p0 + (1 : Int32)), .int (12 : Int32), .ref 160]) (g2 := g) cdE_296 rfl ?_
          refine bd_elim h (fun g8 hg8 h => ?_)
          refine ev_iastore (g2 := g8) rfl (show S0[160]? = some (100, 19, List.replicate 19 none) from rfl) (by decide) ⟨by decide, by decide⟩ (by rw [hg8] <;> rfl) ?_
          refine ev_rn (n := 1) (i2 := 34) (L2 := [some (.ref 157), some (.int p0), some (.int q4)]) (st2 := [.int q4]) (g2 := g8) cdE_296 rfl ?_
          cases h
          exact ev_ret rfl rfl
        · rw [if_neg hc7] at h
          refine ev_iff rfl (cn_f hc7) ?_
          refine ev_rn (n := 3) (i2 := 24) (L2 := [some (.ref 157), some (.int p0), some (.int q4)]) (st2 := [.int p0, .ref 157, .ref 157]) (g2 := g) cdE_296 rfl ?_
          obtain ⟨q9, hq9, h⟩ := Option.bind_eq_some_iff.mp h
          refine ev_call rfl cdE_182 rfl rfl rfl (e_Mo_deafAt p0  g hq9) ?_
          obtain ⟨q10, hq10, h⟩ := Option.bind_eq_some_iff.mp h
          refine ev_call rfl cdE_295 rfl rfl rfl (e_Mo_takesOut q9  g hq10) ?_
          refine ev_rn (n := 6) (i2 := 32) (L2 := [some (.ref 157), some (.int p0), some (.int q4)]) (st2 := [.int (p0 + (1 : Int32)), .int (12 : Int32), .ref 160]) (g2 := q10) cdE_296 rfl ?_
          refine bd_elim h (fun g11 hg11 h => ?_)
          refine ev_iastore (g2 := g11) rfl (show S0[160]? = some (100, 19, List.replicate 19 none) from rfl) (by decide) ⟨by decide, by decide⟩ (by rw [hg11] <;> rfl) ?_
          refine ev_rn (n := 1) (i2 := 34) (L2 := [some (.ref 157), some (.int p0), some (.int q4)]) (st2 := [.int q4]) (g2 := g11) cdE_296 rfl ?_
          cases h
          exact ev_ret rfl rfl
def f_Da_deaf (p0 : Int32) (g : M2) : Option (Int32 × M2) := (if (f_Da_isDirection p0 g) = 0 then some ((-2 : Int32), g) else (if (f_Pl_isNone 7 g) = 0 then ((f_Pl_wishBits 7 g).bind fun q3 => (if ((q3 >>> (p0 &&& 31)) &&& (1 : Int32)) = 0 then (if (g.1 7 5) = (4 : Int32) then some ((-5 : Int32), g) else ((f_Pl_addDeaf 7 p0 g).bind fun q6 => (bd (uI q6 0 9 (1 : Int32)) fun g7 => some ((g7.1 7 5), g7)))) else some ((-5 : Int32), g))) else some ((-2 : Int32), g)))
theorem e_Da_deaf {Lx : Nat} (p0 : Int32)  (g : M2) {b : (Int32 × M2)} (h : f_Da_deaf p0 g = some b) : Ev Lx 297 cd_297 0 [some (.ref 0), some (.int p0)] [] g (some (.int b.1), b.2) := by
  unfold f_Da_deaf at h
  refine ev_rn (n := 1) (i2 := 1) (L2 := [some (.ref 0), some (.int p0)]) (st2 := [.int p0]) (g2 := g) cdE_297 rfl ?_
  refine ev_call rfl cdE_71 rfl rfl rfl (e_Da_isDirection p0  g rfl) ?_
  by_cases hc1 : (f_Da_isDirection p0 g) = 0
  · rw [if_pos hc1] at h
    refine ev_zft cdE_297 rfl (cn_t hc1) ?_
    refine ev_rn (n := 1) (i2 := 9) (L2 := [some (.ref 0), some (.int p0)]) (st2 := [.int (-2 : Int32)]) (g2 := g) cdE_297 rfl ?_
    cases h
    exact ev_ret rfl rfl
  · rw [if_neg hc1] at h
    refine ev_zff rfl (cn_f hc1) ?_
    refine ev_rn (n := 3) (i2 := 6) (L2 := [some (.ref 0), some (.int p0)]) (st2 := [.ref 7]) (g2 := g) cdE_297 rfl ?_
    refine ev_call rfl cdE_292 rfl rfl rfl (e_Pl_isNone 7 (by decide) g rfl) ?_
    by_cases hc2 : (f_Pl_isNone 7 g) = 0
    · rw [if_pos hc2] at h
      refine ev_zft cdE_297 rfl (cn_t hc2) ?_
      refine ev_rn (n := 3) (i2 := 13) (L2 := [some (.ref 0), some (.int p0)]) (st2 := [.ref 7]) (g2 := g) cdE_297 rfl ?_
      obtain ⟨q3, hq3, h⟩ := Option.bind_eq_some_iff.mp h
      refine ev_call rfl cdE_32 rfl rfl rfl (e_Pl_wishBits 7 (by decide) g hq3) ?_
      refine ev_rn (n := 4) (i2 := 18) (L2 := [some (.ref 0), some (.int p0)]) (st2 := [.int ((q3 >>> (p0 &&& 31)) &&& (1 : Int32))]) (g2 := g) cdE_297 rfl ?_
      by_cases hc4 : ((q3 >>> (p0 &&& 31)) &&& (1 : Int32)) = 0
      · rw [if_pos hc4] at h
        refine ev_zff rfl (cn_f (fun q => q hc4)) ?_
        refine ev_rn (n := 5) (i2 := 24) (L2 := [some (.ref 0), some (.int p0)]) (st2 := [.int (4 : Int32), .int (g.1 7 5)]) (g2 := g) cdE_297 rfl ?_
        by_cases hc5 : (g.1 7 5) = (4 : Int32)
        · rw [if_pos hc5] at h
          refine ev_iff rfl (cn_f (fun q => q hc5)) ?_
          refine ev_rn (n := 1) (i2 := 26) (L2 := [some (.ref 0), some (.int p0)]) (st2 := [.int (-5 : Int32)]) (g2 := g) cdE_297 rfl ?_
          cases h
          exact ev_ret rfl rfl
        · rw [if_neg hc5] at h
          refine ev_ift cdE_297 rfl (cn_t hc5) ?_
          refine ev_rn (n := 4) (i2 := 31) (L2 := [some (.ref 0), some (.int p0)]) (st2 := [.int p0, .ref 7]) (g2 := g) cdE_297 rfl ?_
          obtain ⟨q6, hq6, h⟩ := Option.bind_eq_some_iff.mp h
          refine ev_call rfl cdE_35 rfl rfl rfl (e_Pl_addDeaf 7 p0 (by decide) g hq6) ?_
          refine ev_rn (n := 2) (i2 := 34) (L2 := [some (.ref 0), some (.int p0)]) (st2 := [.int (1 : Int32), .ref 0]) (g2 := q6) cdE_297 rfl ?_
          refine bd_elim h (fun g7 hg7 h => ?_)
          refine ev_pf (g2 := g7) rfl (rfl : S0[0]? = some _) (by decide) (by rw [hg7] <;> rfl) ?_
          refine ev_rn (n := 4) (i2 := 39) (L2 := [some (.ref 0), some (.int p0)]) (st2 := [.int (g7.1 7 5)]) (g2 := g7) cdE_297 rfl ?_
          cases h
          exact ev_ret rfl rfl
      · rw [if_neg hc4] at h
        refine ev_zft cdE_297 rfl (cn_t hc4) ?_
        refine ev_rn (n := 1) (i2 := 26) (L2 := [some (.ref 0), some (.int p0)]) (st2 := [.int (-5 : Int32)]) (g2 := g) cdE_297 rfl ?_
        cases h
        exact ev_ret rfl rfl
    · rw [if_neg hc2] at h
      refine ev_zff rfl (cn_f hc2) ?_
      refine ev_rn (n := 1) (i2 := 9) (L2 := [some (.ref 0), some (.int p0)]) (st2 := [.int (-2 : Int32)]) (g2 := g) cdE_297 rfl ?_
      cases h
      exact ev_ret rfl rfl
def f_Mo_deaf (p0 : Int32) (g : M2) : Option (Int32 × M2) := ((f_Mo_isArray g).bind fun q1 => (if q1 = 0 then some ((-2 : Int32), g) else (if (f_Mo_isDirection p0 g) = 0 then some ((-2 : Int32), g) else ((f_Mo_deafAt p0 g).bind fun q4 => (if q4 = (-1 : Int32) then ((f_Mo_lookNow g).bind fun q6 => (if q6 = p0 then some ((-5 : Int32), g) else (if (g.1 160 13) = (4 : Int32) then some ((-5 : Int32), g) else (if inb ((14 : Int32) + (g.1 160 13)) 19 then (bd (uI g 160 ((14 : Int32) + (g.1 160 13)).toNatClampNeg p0) fun g9 => (bd (uI g9 160 13 ((g9.1 160 13) + (1 : Int32))) fun g10 => some ((g10.1 160 13), g10))) else none)))) else some ((-5 : Int32), g))))))
theorem e_Mo_deaf {Lx : Nat} (p0 : Int32)  (g : M2) {b : (Int32 × M2)} (h : f_Mo_deaf p0 g = some b) : Ev Lx 298 cd_298 0 [some (.ref 157), some (.int p0)] [] g (some (.int b.1), b.2) := by
  unfold f_Mo_deaf at h
  refine ev_rn (n := 1) (i2 := 1) (L2 := [some (.ref 157), some (.int p0)]) (st2 := [.ref 157]) (g2 := g) cdE_298 rfl ?_
  obtain ⟨q1, hq1, h⟩ := Option.bind_eq_some_iff.mp h
  refine ev_call rfl cdE_294 rfl rfl rfl (e_Mo_isArray   g hq1) ?_
  by_cases hc2 : q1 = 0
  · rw [if_pos hc2] at h
    refine ev_zft cdE_298 rfl (cn_t hc2) ?_
    refine ev_rn (n := 1) (i2 := 7) (L2 := [some (.ref 157), some (.int p0)]) (st2 := [.int (-2 : Int32)]) (g2 := g) cdE_298 rfl ?_
    cases h
    exact ev_ret rfl rfl
  · rw [if_neg hc2] at h
    refine ev_zff rfl (cn_f hc2) ?_
    refine ev_rn (n := 1) (i2 := 4) (L2 := [some (.ref 157), some (.int p0)]) (st2 := [.int p0]) (g2 := g) cdE_298 rfl ?_
    refine ev_call rfl cdE_73 rfl rfl rfl (e_Mo_isDirection p0  g rfl) ?_
    by_cases hc3 : (f_Mo_isDirection p0 g) = 0
    · rw [if_pos hc3] at h
      refine ev_zff rfl (cn_f (fun q => q hc3)) ?_
      refine ev_rn (n := 1) (i2 := 7) (L2 := [some (.ref 157), some (.int p0)]) (st2 := [.int (-2 : Int32)]) (g2 := g) cdE_298 rfl ?_
      cases h
      exact ev_ret rfl rfl
    · rw [if_neg hc3] at h
      refine ev_zft cdE_298 rfl (cn_t hc3) ?_
      refine ev_rn (n := 2) (i2 := 10) (L2 := [some (.ref 157), some (.int p0)]) (st2 := [.int p0, .ref 157]) (g2 := g) cdE_298 rfl ?_
      obtain ⟨q4, hq4, h⟩ := Option.bind_eq_some_iff.mp h
      refine ev_call rfl cdE_182 rfl rfl rfl (e_Mo_deafAt p0  g hq4) ?_
      refine ev_rn (n := 1) (i2 := 12) (L2 := [some (.ref 157), some (.int p0)]) (st2 := [.int (-1 : Int32), .int q4]) (g2 := g) cdE_298 rfl ?_
      by_cases hc5 : q4 = (-1 : Int32)
      · rw [if_pos hc5] at h
        refine ev_iff rfl (cn_f (fun q => q hc5)) ?_
        refine ev_rn (n := 1) (i2 := 14) (L2 := [some (.ref 157), some (.int p0)]) (st2 := [.ref 157]) (g2 := g) cdE_298 rfl ?_
        obtain ⟨q6, hq6, h⟩ := Option.bind_eq_some_iff.mp h
        refine ev_call rfl cdE_63 rfl rfl rfl (e_Mo_lookNow   g hq6) ?_
        refine ev_rn (n := 1) (i2 := 16) (L2 := [some (.ref 157), some (.int p0)]) (st2 := [.int p0, .int q6]) (g2 := g) cdE_298 rfl ?_
        by_cases hc7 : q6 = p0
        · rw [if_pos hc7] at h
          refine ev_ift cdE_298 rfl (cn_t hc7) ?_
          refine ev_rn (n := 1) (i2 := 24) (L2 := [some (.ref 157), some (.int p0)]) (st2 := [.int (-5 : Int32)]) (g2 := g) cdE_298 rfl ?_
          cases h
          exact ev_ret rfl rfl
        · rw [if_neg hc7] at h
          refine ev_iff rfl (cn_f hc7) ?_
          refine ev_rn (n := 3) (i2 := 20) (L2 := [some (.ref 157), some (.int p0)]) (st2 := [.int (13 : Int32), .ref 160]) (g2 := g) cdE_298 rfl ?_
          refine ev_iaload (v := .int (g.1 160 13)) rfl (kd_of (show S0[160]? = some (100, 19, List.replicate 19 none) from rfl)) (by decide) ⟨by decide, by decide⟩ rfl ?_
          refine ev_rn (n := 1) (i2 := 22) (L2 := [some (.ref 157), some (.int p0)]) (st2 := [.int (4 : Int32), .int (g.1 160 13)]) (g2 := g) cdE_298 rfl ?_
          by_cases hc8 : (g.1 160 13) = (4 : Int32)
          · rw [if_pos hc8] at h
            refine ev_iff rfl (cn_f (fun q => q hc8)) ?_
            refine ev_rn (n := 1) (i2 := 24) (L2 := [some (.ref 157), some (.int p0)]) (st2 := [.int (-5 : Int32)]) (g2 := g) cdE_298 rfl ?_
            cases h
            exact ev_ret rfl rfl
          · rw [if_neg hc8] at h
            refine ev_ift cdE_298 rfl (cn_t hc8) ?_
            refine ev_rn (n := 6) (i2 := 31) (L2 := [some (.ref 157), some (.int p0)]) (st2 := [.int (13 : Int32), .ref 160, .int (14 : Int32), .ref 160]) (g2 := g) cdE_298 rfl ?_
            refine ev_iaload (v := .int (g.1 160 13)) rfl (kd_of (show S0[160]? = some (100, 19, List.replicate 19 none) from rfl)) (by decide) ⟨by decide, by decide⟩ rfl ?_
            refine ev_rn (n := 2) (i2 := 34) (L2 := [some (.ref 157), some (.int p0)]) (st2 := [.int p0, .int ((14 : Int32) + (g.1 160 13)), .ref 160]) (g2 := g) cdE_298 rfl ?_
            by_cases hi11 : inb ((14 : Int32) + (g.1 160 13)) 19
            · rw [if_pos hi11] at h
              refine bd_elim h (fun g9 hg9 h => ?_)
              refine ev_iastore (g2 := g9) rfl (show S0[160]? = some (100, 19, List.replicate 19 none) from rfl) (by decide) hi11 (by rw [hg9] <;> rfl) ?_
              refine ev_rn (n := 4) (i2 := 39) (L2 := [some (.ref 157), some (.int p0)]) (st2 := [.int (13 : Int32), .ref 160, .int (13 : Int32), .ref 160]) (g2 := g9) cdE_298 rfl ?_
              refine ev_iaload (v := .int (g9.1 160 13)) rfl (kd_of (show S0[160]? = some (100, 19, List.replicate 19 none) from rfl)) (by decide) ⟨by decide, by decide⟩ rfl ?_
              refine ev_rn (n := 2) (i2 := 42) (L2 := [some (.ref 157), some (.int p0)]) (st2 := [.int ((g9.1 160 13) + (1 : Int32)), .int (13 : Int32), .ref 160]) (g2 := g9) cdE_298 rfl ?_
              refine bd_elim h (fun g10 hg10 h => ?_)
              refine ev_iastore (g2 := g10) rfl (show S0[160]? = some (100, 19, List.replicate 19 none) from rfl) (by decide) ⟨by decide, by decide⟩ (by rw [hg10] <;> rfl) ?_
              refine ev_rn (n := 3) (i2 := 46) (L2 := [some (.ref 157), some (.int p0)]) (st2 := [.int (13 : Int32), .ref 160]) (g2 := g10) cdE_298 rfl ?_
              refine ev_iaload (v := .int (g10.1 160 13)) rfl (kd_of (show S0[160]? = some (100, 19, List.replicate 19 none) from rfl)) (by decide) ⟨by decide, by decide⟩ rfl ?_
              cases h
              exact ev_ret rfl rfl
            · rw [if_neg hi11] at h
              cases h
      · rw [if_neg hc5] at h
        refine ev_ift cdE_298 rfl (cn_t hc5) ?_
        refine ev_rn (n := 1) (i2 := 24) (L2 := [some (.ref 157), some (.int p0)]) (st2 := [.int (-5 : Int32)]) (g2 := g) cdE_298 rfl ?_
        cases h
        exact ev_ret rfl rfl
def f_Da_hear (p0 : Int32) (g : M2) : Option (Int32 × M2) := (if (f_Da_isDirection p0 g) = 0 then some ((-2 : Int32), g) else (if (f_Pl_isNone 7 g) = 0 then ((f_Pl_deafBits 7 g).bind fun q3 => (if ((q3 >>> (p0 &&& 31)) &&& (1 : Int32)) = 0 then some ((-5 : Int32), g) else ((f_Pl_dropDeaf 7 p0 g).bind fun q5 => (bd (uI q5 0 9 (1 : Int32)) fun g6 => some ((g6.1 7 5), g6))))) else some ((-2 : Int32), g)))
theorem e_Da_hear {Lx : Nat} (p0 : Int32)  (g : M2) {b : (Int32 × M2)} (h : f_Da_hear p0 g = some b) : Ev Lx 299 cd_299 0 [some (.ref 0), some (.int p0)] [] g (some (.int b.1), b.2) := by
  unfold f_Da_hear at h
  refine ev_rn (n := 1) (i2 := 1) (L2 := [some (.ref 0), some (.int p0)]) (st2 := [.int p0]) (g2 := g) cdE_299 rfl ?_
  refine ev_call rfl cdE_71 rfl rfl rfl (e_Da_isDirection p0  g rfl) ?_
  by_cases hc1 : (f_Da_isDirection p0 g) = 0
  · rw [if_pos hc1] at h
    refine ev_zft cdE_299 rfl (cn_t hc1) ?_
    refine ev_rn (n := 1) (i2 := 9) (L2 := [some (.ref 0), some (.int p0)]) (st2 := [.int (-2 : Int32)]) (g2 := g) cdE_299 rfl ?_
    cases h
    exact ev_ret rfl rfl
  · rw [if_neg hc1] at h
    refine ev_zff rfl (cn_f hc1) ?_
    refine ev_rn (n := 3) (i2 := 6) (L2 := [some (.ref 0), some (.int p0)]) (st2 := [.ref 7]) (g2 := g) cdE_299 rfl ?_
    refine ev_call rfl cdE_292 rfl rfl rfl (e_Pl_isNone 7 (by decide) g rfl) ?_
    by_cases hc2 : (f_Pl_isNone 7 g) = 0
    · rw [if_pos hc2] at h
      refine ev_zft cdE_299 rfl (cn_t hc2) ?_
      refine ev_rn (n := 3) (i2 := 13) (L2 := [some (.ref 0), some (.int p0)]) (st2 := [.ref 7]) (g2 := g) cdE_299 rfl ?_
      obtain ⟨q3, hq3, h⟩ := Option.bind_eq_some_iff.mp h
      refine ev_call rfl cdE_31 rfl rfl rfl (e_Pl_deafBits 7 (by decide) g hq3) ?_
      refine ev_rn (n := 4) (i2 := 18) (L2 := [some (.ref 0), some (.int p0)]) (st2 := [.int ((q3 >>> (p0 &&& 31)) &&& (1 : Int32))]) (g2 := g) cdE_299 rfl ?_
      by_cases hc4 : ((q3 >>> (p0 &&& 31)) &&& (1 : Int32)) = 0
      · rw [if_pos hc4] at h
        refine ev_zff rfl (cn_f (fun q => q hc4)) ?_
        refine ev_rn (n := 1) (i2 := 20) (L2 := [some (.ref 0), some (.int p0)]) (st2 := [.int (-5 : Int32)]) (g2 := g) cdE_299 rfl ?_
        cases h
        exact ev_ret rfl rfl
      · rw [if_neg hc4] at h
        refine ev_zft cdE_299 rfl (cn_t hc4) ?_
        refine ev_rn (n := 4) (i2 := 25) (L2 := [some (.ref 0), some (.int p0)]) (st2 := [.int p0, .ref 7]) (g2 := g) cdE_299 rfl ?_
        obtain ⟨q5, hq5, h⟩ := Option.bind_eq_some_iff.mp h
        refine ev_call rfl cdE_249 rfl rfl rfl (e_Pl_dropDeaf 7 p0 (by decide) g hq5) ?_
        refine ev_rn (n := 2) (i2 := 28) (L2 := [some (.ref 0), some (.int p0)]) (st2 := [.int (1 : Int32), .ref 0]) (g2 := q5) cdE_299 rfl ?_
        refine bd_elim h (fun g6 hg6 h => ?_)
        refine ev_pf (g2 := g6) rfl (rfl : S0[0]? = some _) (by decide) (by rw [hg6] <;> rfl) ?_
        refine ev_rn (n := 4) (i2 := 33) (L2 := [some (.ref 0), some (.int p0)]) (st2 := [.int (g6.1 7 5)]) (g2 := g6) cdE_299 rfl ?_
        cases h
        exact ev_ret rfl rfl
    · rw [if_neg hc2] at h
      refine ev_zff rfl (cn_f hc2) ?_
      refine ev_rn (n := 1) (i2 := 9) (L2 := [some (.ref 0), some (.int p0)]) (st2 := [.int (-2 : Int32)]) (g2 := g) cdE_299 rfl ?_
      cases h
      exact ev_ret rfl rfl
def f_Mo_hear (p0 : Int32) (g : M2) : Option (Int32 × M2) := ((f_Mo_isArray g).bind fun q1 => (if q1 = 0 then some ((-2 : Int32), g) else (if (f_Mo_isDirection p0 g) = 0 then some ((-2 : Int32), g) else ((f_Mo_deafAt p0 g).bind fun q4 => (if q4 = (-1 : Int32) then some ((-5 : Int32), g) else ((f_Mo_deafAt p0 g).bind fun q6 => ((f_Mo_takesOut q6 g).bind fun q7 => some ((q7.1 160 13), q7))))))))
theorem e_Mo_hear {Lx : Nat} (p0 : Int32)  (g : M2) {b : (Int32 × M2)} (h : f_Mo_hear p0 g = some b) : Ev Lx 300 cd_300 0 [some (.ref 157), some (.int p0)] [] g (some (.int b.1), b.2) := by
  unfold f_Mo_hear at h
  refine ev_rn (n := 1) (i2 := 1) (L2 := [some (.ref 157), some (.int p0)]) (st2 := [.ref 157]) (g2 := g) cdE_300 rfl ?_
  obtain ⟨q1, hq1, h⟩ := Option.bind_eq_some_iff.mp h
  refine ev_call rfl cdE_294 rfl rfl rfl (e_Mo_isArray   g hq1) ?_
  by_cases hc2 : q1 = 0
  · rw [if_pos hc2] at h
    refine ev_zft cdE_300 rfl (cn_t hc2) ?_
    refine ev_rn (n := 1) (i2 := 7) (L2 := [some (.ref 157), some (.int p0)]) (st2 := [.int (-2 : Int32)]) (g2 := g) cdE_300 rfl ?_
    cases h
    exact ev_ret rfl rfl
  · rw [if_neg hc2] at h
    refine ev_zff rfl (cn_f hc2) ?_
    refine ev_rn (n := 1) (i2 := 4) (L2 := [some (.ref 157), some (.int p0)]) (st2 := [.int p0]) (g2 := g) cdE_300 rfl ?_
    refine ev_call rfl cdE_73 rfl rfl rfl (e_Mo_isDirection p0  g rfl) ?_
    by_cases hc3 : (f_Mo_isDirection p0 g) = 0
    · rw [if_pos hc3] at h
      refine ev_zff rfl (cn_f (fun q => q hc3)) ?_
      refine ev_rn (n := 1) (i2 := 7) (L2 := [some (.ref 157), some (.int p0)]) (st2 := [.int (-2 : Int32)]) (g2 := g) cdE_300 rfl ?_
      cases h
      exact ev_ret rfl rfl
    · rw [if_neg hc3] at h
      refine ev_zft cdE_300 rfl (cn_t hc3) ?_
      refine ev_rn (n := 2) (i2 := 10) (L2 := [some (.ref 157), some (.int p0)]) (st2 := [.int p0, .ref 157]) (g2 := g) cdE_300 rfl ?_
      obtain ⟨q4, hq4, h⟩ := Option.bind_eq_some_iff.mp h
      refine ev_call rfl cdE_182 rfl rfl rfl (e_Mo_deafAt p0  g hq4) ?_
      refine ev_rn (n := 1) (i2 := 12) (L2 := [some (.ref 157), some (.int p0)]) (st2 := [.int (-1 : Int32), .int q4]) (g2 := g) cdE_300 rfl ?_
      by_cases hc5 : q4 = (-1 : Int32)
      · rw [if_pos hc5] at h
        refine ev_iff rfl (cn_f (fun q => q hc5)) ?_
        refine ev_rn (n := 1) (i2 := 14) (L2 := [some (.ref 157), some (.int p0)]) (st2 := [.int (-5 : Int32)]) (g2 := g) cdE_300 rfl ?_
        cases h
        exact ev_ret rfl rfl
      · rw [if_neg hc5] at h
        refine ev_ift cdE_300 rfl (cn_t hc5) ?_
        refine ev_rn (n := 3) (i2 := 18) (L2 := [some (.ref 157), some (.int p0)]) (st2 := [.int p0, .ref 157, .ref 157]) (g2 := g) cdE_300 rfl ?_
        obtain ⟨q6, hq6, h⟩ := Option.bind_eq_some_iff.mp h
        refine ev_call rfl cdE_182 rfl rfl rfl (e_Mo_deafAt p0  g hq6) ?_
        obtain ⟨q7, hq7, h⟩ := Option.bind_eq_some_iff.mp h
        refine ev_call rfl cdE_295 rfl rfl rfl (e_Mo_takesOut q6  g hq7) ?_
        refine ev_rn (n := 3) (i2 := 23) (L2 := [some (.ref 157), some (.int p0)]) (st2 := [.int (13 : Int32), .ref 160]) (g2 := q7) cdE_300 rfl ?_
        refine ev_iaload (v := .int (q7.1 160 13)) rfl (kd_of (show S0[160]? = some (100, 19, List.replicate 19 none) from rfl)) (by decide) ⟨by decide, by decide⟩ rfl ?_
        cases h
        exact ev_ret rfl rfl
def f_Da_steps (p0 : Int32) (g : M2) : Option (Int32 × M2) := (if p0 < (1 : Int32) then some ((-2 : Int32), g) else (if (99 : Int32) < p0 then some ((-2 : Int32), g) else (if (f_Pl_isNone 7 g) = 0 then (bd (uI g 7 6 p0) fun g4 => some ((g.1 7 6), g4)) else some ((-2 : Int32), g))))
theorem e_Da_steps {Lx : Nat} (p0 : Int32)  (g : M2) {b : (Int32 × M2)} (h : f_Da_steps p0 g = some b) : Ev Lx 301 cd_301 0 [some (.ref 0), some (.int p0)] [] g (some (.int b.1), b.2) := by
  unfold f_Da_steps at h
  refine ev_rn (n := 2) (i2 := 2) (L2 := [some (.ref 0), some (.int p0)]) (st2 := [.int (1 : Int32), .int p0]) (g2 := g) cdE_301 rfl ?_
  by_cases hc1 : p0 < (1 : Int32)
  · rw [if_pos hc1] at h
    refine ev_ift cdE_301 rfl (cn_t hc1) ?_
    refine ev_rn (n := 1) (i2 := 12) (L2 := [some (.ref 0), some (.int p0)]) (st2 := [.int (-2 : Int32)]) (g2 := g) cdE_301 rfl ?_
    cases h
    exact ev_ret rfl rfl
  · rw [if_neg hc1] at h
    refine ev_iff rfl (cn_f hc1) ?_
    refine ev_rn (n := 2) (i2 := 5) (L2 := [some (.ref 0), some (.int p0)]) (st2 := [.int (99 : Int32), .int p0]) (g2 := g) cdE_301 rfl ?_
    by_cases hc2 : (99 : Int32) < p0
    · rw [if_pos hc2] at h
      refine ev_ift cdE_301 rfl (cn_t hc2) ?_
      refine ev_rn (n := 1) (i2 := 12) (L2 := [some (.ref 0), some (.int p0)]) (st2 := [.int (-2 : Int32)]) (g2 := g) cdE_301 rfl ?_
      cases h
      exact ev_ret rfl rfl
    · rw [if_neg hc2] at h
      refine ev_iff rfl (cn_f hc2) ?_
      refine ev_rn (n := 3) (i2 := 9) (L2 := [some (.ref 0), some (.int p0)]) (st2 := [.ref 7]) (g2 := g) cdE_301 rfl ?_
      refine ev_call rfl cdE_292 rfl rfl rfl (e_Pl_isNone 7 (by decide) g rfl) ?_
      by_cases hc3 : (f_Pl_isNone 7 g) = 0
      · rw [if_pos hc3] at h
        refine ev_zft cdE_301 rfl (cn_t hc3) ?_
        refine ev_rn (n := 9) (i2 := 22) (L2 := [some (.ref 0), some (.int p0), some (.int (g.1 7 6))]) (st2 := [.int p0, .ref 7]) (g2 := g) cdE_301 rfl ?_
        refine bd_elim h (fun g4 hg4 h => ?_)
        refine ev_pf (g2 := g4) rfl (rfl : S0[7]? = some _) (by decide) (by rw [hg4] <;> rfl) ?_
        refine ev_rn (n := 1) (i2 := 24) (L2 := [some (.ref 0), some (.int p0), some (.int (g.1 7 6))]) (st2 := [.int (g.1 7 6)]) (g2 := g4) cdE_301 rfl ?_
        cases h
        exact ev_ret rfl rfl
      · rw [if_neg hc3] at h
        refine ev_zff rfl (cn_f hc3) ?_
        refine ev_rn (n := 1) (i2 := 12) (L2 := [some (.ref 0), some (.int p0)]) (st2 := [.int (-2 : Int32)]) (g2 := g) cdE_301 rfl ?_
        cases h
        exact ev_ret rfl rfl
def f_Mo_steps (p0 : Int32) (g : M2) : Option (Int32 × M2) := ((f_Mo_isArray g).bind fun q1 => (if q1 = 0 then some ((-2 : Int32), g) else (if (f_Mo_in p0.toInt64 (1 : Int64) (99 : Int64) g) = 0 then some ((-2 : Int32), g) else (bd (uI g 160 0 p0) fun g4 => some ((g.1 160 0), g4)))))
theorem e_Mo_steps {Lx : Nat} (p0 : Int32)  (g : M2) {b : (Int32 × M2)} (h : f_Mo_steps p0 g = some b) : Ev Lx 302 cd_302 0 [some (.ref 157), some (.int p0)] [] g (some (.int b.1), b.2) := by
  unfold f_Mo_steps at h
  refine ev_rn (n := 1) (i2 := 1) (L2 := [some (.ref 157), some (.int p0)]) (st2 := [.ref 157]) (g2 := g) cdE_302 rfl ?_
  obtain ⟨q1, hq1, h⟩ := Option.bind_eq_some_iff.mp h
  refine ev_call rfl cdE_294 rfl rfl rfl (e_Mo_isArray   g hq1) ?_
  by_cases hc2 : q1 = 0
  · rw [if_pos hc2] at h
    refine ev_zft cdE_302 rfl (cn_t hc2) ?_
    refine ev_rn (n := 1) (i2 := 10) (L2 := [some (.ref 157), some (.int p0)]) (st2 := [.int (-2 : Int32)]) (g2 := g) cdE_302 rfl ?_
    cases h
    exact ev_ret rfl rfl
  · rw [if_neg hc2] at h
    refine ev_zff rfl (cn_f hc2) ?_
    refine ev_rn (n := 4) (i2 := 7) (L2 := [some (.ref 157), some (.int p0)]) (st2 := [.long (99 : Int64), .long (1 : Int64), .long p0.toInt64]) (g2 := g) cdE_302 rfl ?_
    refine ev_call rfl cdE_16 rfl rfl rfl (e_Mo_in p0.toInt64 (1 : Int64) (99 : Int64)  g rfl) ?_
    by_cases hc3 : (f_Mo_in p0.toInt64 (1 : Int64) (99 : Int64) g) = 0
    · rw [if_pos hc3] at h
      refine ev_zff rfl (cn_f (fun q => q hc3)) ?_
      refine ev_rn (n := 1) (i2 := 10) (L2 := [some (.ref 157), some (.int p0)]) (st2 := [.int (-2 : Int32)]) (g2 := g) cdE_302 rfl ?_
      cases h
      exact ev_ret rfl rfl
    · rw [if_neg hc3] at h
      refine ev_zft cdE_302 rfl (cn_t hc3) ?_
      refine ev_rn (n := 3) (i2 := 14) (L2 := [some (.ref 157), some (.int p0)]) (st2 := [.int (0 : Int32), .ref 160]) (g2 := g) cdE_302 rfl ?_
      refine ev_iaload (v := .int (g.1 160 0)) rfl (kd_of (show S0[160]? = some (100, 19, List.replicate 19 none) from rfl)) (by decide) ⟨by decide, by decide⟩ rfl ?_
      refine ev_rn (n := 5) (i2 := 20) (L2 := [some (.ref 157), some (.int p0), some (.int (g.1 160 0))]) (st2 := [.int p0, .int (0 : Int32), .ref 160]) (g2 := g) cdE_302 rfl ?_
      refine bd_elim h (fun g4 hg4 h => ?_)
      refine ev_iastore (g2 := g4) rfl (show S0[160]? = some (100, 19, List.replicate 19 none) from rfl) (by decide) ⟨by decide, by decide⟩ (by rw [hg4] <;> rfl) ?_
      refine ev_rn (n := 1) (i2 := 22) (L2 := [some (.ref 157), some (.int p0), some (.int (g.1 160 0))]) (st2 := [.int (g.1 160 0)]) (g2 := g4) cdE_302 rfl ?_
      cases h
      exact ev_ret rfl rfl
