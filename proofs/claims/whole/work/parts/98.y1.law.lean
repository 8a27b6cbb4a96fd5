/-! the law: every call, the loop, the start -/
theorem lc_feed {Lx : Nat} {v3 : Int32} {g : M2} {q : Sg} (hw : WF q) (hC : IC g q) (hM : IM g q) (i1 : inb (v3 + 1) Lx) (i2 : inb (v3 + 2) Lx) (i3 : inb (v3 + 3) Lx) (i4 : inb (v3 + 4) Lx) (i5 : inb (v3 + 5) Lx) : Ok (j_La_law_22 Lx v3 g) (Lp v3 g) := by
  unfold j_La_law_22
  exact lw5 (F := f_Da_feed) (G := f_Mo_feed) i1 i2 i3 i4 i5 (fun x1 x2 x3 x4 x5 => pr_feed hw x1 x2 x3 x4 x5) hC hM
theorem lc_end {Lx : Nat} {v3 : Int32} {g : M2} {q : Sg} (hw : WF q) (hC : IC g q) (hM : IM g q) (i1 : inb (v3 + 1) Lx) : Ok (j_La_law_79 Lx v3 g) (Lp v3 g) := by
  unfold j_La_law_79
  exact lw1 (F := f_Da_end) (G := f_Mo_end) i1 (fun x1 => pr_end hw x1) hC hM
theorem lc_array (hA : ∀ {q : Sg}, WF q → Pr f_Da_array f_Mo_array q) {Lx : Nat} {v3 : Int32} {g : M2} {q : Sg} (hw : WF q) (hC : IC g q) (hM : IM g q)  : Ok (j_La_law_96 Lx v3 g) (Lp v3 g) := by
  unfold j_La_law_96
  exact lw (F := f_Da_array) (G := f_Mo_array) (hA hw) hC hM (fun a _ => rfl)
theorem lc_fault {Lx : Nat} {v3 : Int32} {g : M2} {q : Sg} (hw : WF q) (hC : IC g q) (hM : IM g q) (i1 : inb (v3 + 1) Lx) : Ok (j_La_law_103 Lx v3 g) (Lp v3 g) := by
  unfold j_La_law_103
  refine ok_pos i1 (ok_pos i1 (ok_pos (fault_eq hC hM _) (ok_some ⟨g, rfl, ⟨q, hw, hC, hM⟩, rfl⟩)))
theorem lc_count {Lx : Nat} {v3 : Int32} {g : M2} {q : Sg} (hw : WF q) (hC : IC g q) (hM : IM g q) (i1 : inb (v3 + 1) Lx) : Ok (j_La_law_120 Lx v3 g) (Lp v3 g) := by
  unfold j_La_law_120
  exact lwp1 (F := f_Da_count) (G := f_Mo_count) hw i1 (fun x1 => pp_count hw x1) hC hM
theorem lc_element {Lx : Nat} {v3 : Int32} {g : M2} {q : Sg} (hw : WF q) (hC : IC g q) (hM : IM g q) (i1 : inb (v3 + 1) Lx) (i2 : inb (v3 + 2) Lx) : Ok (j_La_law_137 Lx v3 g) (Lp v3 g) := by
  unfold j_La_law_137
  exact lwp2 (F := f_Da_element) (G := f_Mo_element) hw i1 i2 (fun x1 x2 => pp_element hw x1 x2) hC hM
theorem lc_hears {Lx : Nat} {v3 : Int32} {g : M2} {q : Sg} (hw : WF q) (hC : IC g q) (hM : IM g q) (i1 : inb (v3 + 1) Lx) (i2 : inb (v3 + 2) Lx) : Ok (j_La_law_164 Lx v3 g) (Lp v3 g) := by
  unfold j_La_law_164
  exact lwp2 (F := f_Da_hears) (G := f_Mo_hears) hw i1 i2 (fun x1 x2 => pp_hears hw x1 x2) hC hM
theorem lc_wish {Lx : Nat} {v3 : Int32} {g : M2} {q : Sg} (hw : WF q) (hC : IC g q) (hM : IM g q) (i1 : inb (v3 + 1) Lx) (i2 : inb (v3 + 2) Lx) : Ok (j_La_law_191 Lx v3 g) (Lp v3 g) := by
  unfold j_La_law_191
  exact lw2 (F := f_Da_wish) (G := f_Mo_wish) i1 i2 (fun x1 x2 => pr_wish hw x1 x2) hC hM
theorem lc_rank {Lx : Nat} {v3 : Int32} {g : M2} {q : Sg} (hw : WF q) (hC : IC g q) (hM : IM g q)  : Ok (j_La_law_218 Lx v3 g) (Lp v3 g) := by
  unfold j_La_law_218
  exact lw (F := f_Da_rank) (G := f_Mo_rank) (pr_rank hw) hC hM (fun a _ => rfl)
theorem lc_solved {Lx : Nat} {v3 : Int32} {g : M2} {q : Sg} (hw : WF q) (hC : IC g q) (hM : IM g q)  : Ok (j_La_law_225 Lx v3 g) (Lp v3 g) := by
  unfold j_La_law_225
  exact lw (F := f_Da_solved) (G := f_Mo_solved) (pr_solved hw) hC hM (fun a _ => rfl)
theorem lc_weight {Lx : Nat} {v3 : Int32} {g : M2} {q : Sg} (hw : WF q) (hC : IC g q) (hM : IM g q) (i1 : inb (v3 + 1) Lx) (i2 : inb (v3 + 2) Lx) : Ok (j_La_law_232 Lx v3 g) (Lp v3 g) := by
  unfold j_La_law_232
  exact lw2 (F := f_Da_weight) (G := f_Mo_weight) i1 i2 (fun x1 x2 => pr_weight hw x1 x2) hC hM
theorem lc_gain {Lx : Nat} {v3 : Int32} {g : M2} {q : Sg} (hw : WF q) (hC : IC g q) (hM : IM g q) (i1 : inb (v3 + 1) Lx) (i2 : inb (v3 + 2) Lx) : Ok (j_La_law_260 Lx v3 g) (Lp v3 g) := by
  unfold j_La_law_260
  exact lw2 (F := f_Da_gain) (G := f_Mo_gain) i1 i2 (fun x1 x2 => pr_gain hw x1 x2) hC hM
theorem lc_power {Lx : Nat} {v3 : Int32} {g : M2} {q : Sg} (hw : WF q) (hC : IC g q) (hM : IM g q) (i1 : inb (v3 + 1) Lx) (i2 : inb (v3 + 2) Lx) : Ok (j_La_law_288 Lx v3 g) (Lp v3 g) := by
  unfold j_La_law_288
  exact lw2 (F := f_Da_power) (G := f_Mo_power) i1 i2 (fun x1 x2 => pr_power hw x1 x2) hC hM
theorem lc_total {Lx : Nat} {v3 : Int32} {g : M2} {q : Sg} (hw : WF q) (hC : IC g q) (hM : IM g q) (i1 : inb (v3 + 1) Lx) : Ok (j_La_law_316 Lx v3 g) (Lp v3 g) := by
  unfold j_La_law_316
  exact lw1 (F := f_Da_total) (G := f_Mo_total) i1 (fun x1 => pr_total hw x1) hC hM
theorem lc_louder {Lx : Nat} {v3 : Int32} {g : M2} {q : Sg} (hw : WF q) (hC : IC g q) (hM : IM g q) (i1 : inb (v3 + 1) Lx) (i2 : inb (v3 + 2) Lx) : Ok (j_La_law_334 Lx v3 g) (Lp v3 g) := by
  unfold j_La_law_334
  exact lw2 (F := f_Da_louder) (G := f_Mo_louder) i1 i2 (fun x1 x2 => pr_louder hw x1 x2) hC hM
theorem lc_loud {Lx : Nat} {v3 : Int32} {g : M2} {q : Sg} (hw : WF q) (hC : IC g q) (hM : IM g q) (i1 : inb (v3 + 1) Lx) : Ok (j_La_law_361 Lx v3 g) (Lp v3 g) := by
  unfold j_La_law_361
  exact lw1 (F := f_Da_loud) (G := f_Mo_loud) i1 (fun x1 => pr_loud hw x1) hC hM
theorem lc_hush {Lx : Nat} {v3 : Int32} {g : M2} {q : Sg} (hw : WF q) (hC : IC g q) (hM : IM g q) (i1 : inb (v3 + 1) Lx) (i2 : inb (v3 + 2) Lx) (i3 : inb (v3 + 3) Lx) : Ok (j_La_law_378 Lx v3 g) (Lp v3 g) := by
  unfold j_La_law_378
  exact lw3 (F := f_Da_hush) (G := f_Mo_hush) i1 i2 i3 (fun x1 x2 x3 => pr_hush hw x1 x2 x3) hC hM
theorem lc_beam {Lx : Nat} {v3 : Int32} {g : M2} {q : Sg} (hw : WF q) (hC : IC g q) (hM : IM g q) (i1 : inb (v3 + 1) Lx) (i2 : inb (v3 + 2) Lx) : Ok (j_La_law_415 Lx v3 g) (Lp v3 g) := by
  unfold j_La_law_415
  exact lw2 (F := f_Da_beam) (G := f_Mo_beam) i1 i2 (fun x1 x2 => pr_beam hw x1 x2) hC hM
theorem lc_share {Lx : Nat} {v3 : Int32} {g : M2} {q : Sg} (hw : WF q) (hC : IC g q) (hM : IM g q) (i1 : inb (v3 + 1) Lx) (i2 : inb (v3 + 2) Lx) : Ok (j_La_law_442 Lx v3 g) (Lp v3 g) := by
  unfold j_La_law_442
  exact lw2 (F := f_Da_share) (G := f_Mo_share) i1 i2 (fun x1 x2 => pr_share hw x1 x2) hC hM
theorem lc_room {Lx : Nat} {v3 : Int32} {g : M2} {q : Sg} (hw : WF q) (hC : IC g q) (hM : IM g q) (i1 : inb (v3 + 1) Lx) : Ok (j_La_law_470 Lx v3 g) (Lp v3 g) := by
  unfold j_La_law_470
  exact lw1 (F := f_Da_room) (G := f_Mo_room) i1 (fun x1 => pr_room hw x1) hC hM
theorem lc_likeness {Lx : Nat} {v3 : Int32} {g : M2} {q : Sg} (hw : WF q) (hC : IC g q) (hM : IM g q) (i1 : inb (v3 + 1) Lx) (i2 : inb (v3 + 2) Lx) (i3 : inb (v3 + 3) Lx) : Ok (j_La_law_488 Lx v3 g) (Lp v3 g) := by
  unfold j_La_law_488
  exact lw3 (F := f_Da_likeness) (G := f_Mo_likeness) i1 i2 i3 (fun x1 x2 x3 => pr_likeness hw x1 x2 x3) hC hM
theorem lc_nearest {Lx : Nat} {v3 : Int32} {g : M2} {q : Sg} (hw : WF q) (hC : IC g q) (hM : IM g q) (i1 : inb (v3 + 1) Lx) : Ok (j_La_law_525 Lx v3 g) (Lp v3 g) := by
  unfold j_La_law_525
  exact lw1 (F := f_Da_nearest) (G := f_Mo_nearest) i1 (fun x1 => pr_nearest hw x1) hC hM
theorem lc_quiet {Lx : Nat} {v3 : Int32} {g : M2} {q : Sg} (hw : WF q) (hC : IC g q) (hM : IM g q)  : Ok (j_La_law_542 Lx v3 g) (Lp v3 g) := by
  unfold j_La_law_542
  exact lw (F := f_Da_quiet) (G := f_Mo_quiet) (pr_quiet hw) hC hM (fun a _ => rfl)
theorem lc_side {Lx : Nat} {v3 : Int32} {g : M2} {q : Sg} (hw : WF q) (hC : IC g q) (hM : IM g q)  : Ok (j_La_law_549 Lx v3 g) (Lp v3 g) := by
  unfold j_La_law_549
  exact lw (F := f_Da_side) (G := f_Mo_side) (pr_side hw) hC hM (fun a _ => rfl)
theorem lc_bounded {Lx : Nat} {v3 : Int32} {g : M2} {q : Sg} (hw : WF q) (hC : IC g q) (hM : IM g q) (i1 : inb (v3 + 1) Lx) (i2 : inb (v3 + 2) Lx) : Ok (j_La_law_556 Lx v3 g) (Lp v3 g) := by
  unfold j_La_law_556
  exact lw2 (F := f_Da_bounded) (G := f_Mo_bounded) i1 i2 (fun x1 x2 => pr_bounded hw x1 x2) hC hM
theorem lc_twins {Lx : Nat} {v3 : Int32} {g : M2} {q : Sg} (hw : WF q) (hC : IC g q) (hM : IM g q) (i1 : inb (v3 + 1) Lx) : Ok (j_La_law_583 Lx v3 g) (Lp v3 g) := by
  unfold j_La_law_583
  exact lwp1 (F := f_Da_twins) (G := f_Mo_twins) hw i1 (fun x1 => pp_twins hw x1) hC hM
theorem lc_sets {Lx : Nat} {v3 : Int32} {g : M2} {q : Sg} (hw : WF q) (hC : IC g q) (hM : IM g q)  : Ok (j_La_law_600 Lx v3 g) (Lp v3 g) := by
  unfold j_La_law_600
  exact lwp (F := f_Da_sets) (G := f_Mo_sets) hw (pp_sets hw) hC hM (fun a => rfl)
theorem lc_without {Lx : Nat} {v3 : Int32} {g : M2} {q : Sg} (hw : WF q) (hC : IC g q) (hM : IM g q) (i1 : inb (v3 + 1) Lx) (i2 : inb (v3 + 2) Lx) : Ok (j_La_law_607 Lx v3 g) (Lp v3 g) := by
  unfold j_La_law_607
  exact lw2 (F := f_Da_without) (G := f_Mo_without) i1 i2 (fun x1 x2 => pr_without hw x1 x2) hC hM
theorem lc_spares {Lx : Nat} {v3 : Int32} {g : M2} {q : Sg} (hw : WF q) (hC : IC g q) (hM : IM g q)  : Ok (j_La_law_634 Lx v3 g) (Lp v3 g) := by
  unfold j_La_law_634
  exact lw (F := f_Da_spares) (G := f_Mo_spares) (pr_spares hw) hC hM (fun a _ => rfl)
theorem lc_frail {Lx : Nat} {v3 : Int32} {g : M2} {q : Sg} (hw : WF q) (hC : IC g q) (hM : IM g q) (i1 : inb (v3 + 1) Lx) : Ok (j_La_law_641 Lx v3 g) (Lp v3 g) := by
  unfold j_La_law_641
  exact lw1 (F := f_Da_frail) (G := f_Mo_frail) i1 (fun x1 => pr_frail hw x1) hC hM
theorem lc_fewest {Lx : Nat} {v3 : Int32} {g : M2} {q : Sg} (hw : WF q) (hC : IC g q) (hM : IM g q) (i1 : inb (v3 + 1) Lx) : Ok (j_La_law_658 Lx v3 g) (Lp v3 g) := by
  unfold j_La_law_658
  exact lw1 (F := f_Da_fewest) (G := f_Mo_fewest) i1 (fun x1 => pr_fewest hw x1) hC hM
theorem lc_leak {Lx : Nat} {v3 : Int32} {g : M2} {q : Sg} (hw : WF q) (hC : IC g q) (hM : IM g q) (i1 : inb (v3 + 1) Lx) (i2 : inb (v3 + 2) Lx) (i3 : inb (v3 + 3) Lx) : Ok (j_La_law_675 Lx v3 g) (Lp v3 g) := by
  unfold j_La_law_675
  exact lw3 (F := f_Da_leak) (G := f_Mo_leak) i1 i2 i3 (fun x1 x2 x3 => pr_leak hw x1 x2 x3) hC hM
theorem lc_weakest {Lx : Nat} {v3 : Int32} {g : M2} {q : Sg} (hw : WF q) (hC : IC g q) (hM : IM g q)  : Ok (j_La_law_713 Lx v3 g) (Lp v3 g) := by
  unfold j_La_law_713
  exact lw (F := f_Da_weakest) (G := f_Mo_weakest) (pr_weakest hw) hC hM (fun a _ => rfl)
theorem lc_cut {Lx : Nat} {v3 : Int32} {g : M2} {q : Sg} (hw : WF q) (hC : IC g q) (hM : IM g q) (i1 : inb (v3 + 1) Lx) (i2 : inb (v3 + 2) Lx) : Ok (j_La_law_720 Lx v3 g) (Lp v3 g) := by
  unfold j_La_law_720
  exact lw2 (F := f_Da_cut) (G := f_Mo_cut) i1 i2 (fun x1 x2 => pr_cut hw x1 x2) hC hM
theorem lc_cutGain {Lx : Nat} {v3 : Int32} {g : M2} {q : Sg} (hw : WF q) (hC : IC g q) (hM : IM g q) (i1 : inb (v3 + 1) Lx) (i2 : inb (v3 + 2) Lx) : Ok (j_La_law_748 Lx v3 g) (Lp v3 g) := by
  unfold j_La_law_748
  exact lw2 (F := f_Da_cutGain) (G := f_Mo_cutGain) i1 i2 (fun x1 x2 => pr_cutGain hw x1 x2) hC hM
theorem lc_cutPower {Lx : Nat} {v3 : Int32} {g : M2} {q : Sg} (hw : WF q) (hC : IC g q) (hM : IM g q) (i1 : inb (v3 + 1) Lx) (i2 : inb (v3 + 2) Lx) : Ok (j_La_law_776 Lx v3 g) (Lp v3 g) := by
  unfold j_La_law_776
  exact lw2 (F := f_Da_cutPower) (G := f_Mo_cutPower) i1 i2 (fun x1 x2 => pr_cutPower hw x1 x2) hC hM
theorem lc_error {Lx : Nat} {v3 : Int32} {g : M2} {q : Sg} (hw : WF q) (hC : IC g q) (hM : IM g q) (i1 : inb (v3 + 1) Lx) (i2 : inb (v3 + 2) Lx) : Ok (j_La_law_804 Lx v3 g) (Lp v3 g) := by
  unfold j_La_law_804
  exact lw2 (F := f_Da_error) (G := f_Mo_error) i1 i2 (fun x1 x2 => pr_error hw x1 x2) hC hM
theorem lc_farthest {Lx : Nat} {v3 : Int32} {g : M2} {q : Sg} (hw : WF q) (hC : IC g q) (hM : IM g q)  : Ok (j_La_law_832 Lx v3 g) (Lp v3 g) := by
  unfold j_La_law_832
  exact lw (F := f_Da_farthest) (G := f_Mo_farthest) (pr_farthest hw) hC hM (fun a _ => rfl)
theorem lc_within {Lx : Nat} {v3 : Int32} {g : M2} {q : Sg} (hw : WF q) (hC : IC g q) (hM : IM g q) (i1 : inb (v3 + 1) Lx) : Ok (j_La_law_839 Lx v3 g) (Lp v3 g) := by
  unfold j_La_law_839
  exact lw1 (F := f_Da_within) (G := f_Mo_within) i1 (fun x1 => pr_within hw x1) hC hM
theorem lc_coarsest {Lx : Nat} {v3 : Int32} {g : M2} {q : Sg} (hw : WF q) (hC : IC g q) (hM : IM g q) (i1 : inb (v3 + 1) Lx) (i2 : inb (v3 + 2) Lx) : Ok (j_La_law_856 Lx v3 g) (Lp v3 g) := by
  unfold j_La_law_856
  exact lw2 (F := f_Da_coarsest) (G := f_Mo_coarsest) i1 i2 (fun x1 x2 => pr_coarsest hw x1 x2) hC hM
theorem lc_step {Lx : Nat} {v3 : Int32} {g : M2} {q : Sg} (hw : WF q) (hC : IC g q) (hM : IM g q) (i1 : inb (v3 + 1) Lx) : Ok (j_La_law_883 Lx v3 g) (Lp v3 g) := by
  unfold j_La_law_883
  exact lw1 (F := f_Da_step) (G := f_Mo_step) i1 (fun x1 => pr_step hw x1) hC hM
theorem lc_exactly {Lx : Nat} {v3 : Int32} {g : M2} {q : Sg} (hw : WF q) (hC : IC g q) (hM : IM g q)  : Ok (j_La_law_900 Lx v3 g) (Lp v3 g) := by
  unfold j_La_law_900
  exact lw (F := f_Da_exactly) (G := f_Mo_exactly) (pr_exactly hw) hC hM (fun a _ => rfl)
theorem lc_polish {Lx : Nat} {v3 : Int32} {g : M2} {q : Sg} (hw : WF q) (hC : IC g q) (hM : IM g q) (i1 : inb (v3 + 1) Lx) (i2 : inb (v3 + 2) Lx) : Ok (j_La_law_907 Lx v3 g) (Lp v3 g) := by
  unfold j_La_law_907
  exact lw2 (F := f_Da_polish) (G := f_Mo_polish) i1 i2 (fun x1 x2 => pr_polish hw x1 x2) hC hM
theorem lc_looks {Lx : Nat} {v3 : Int32} {g : M2} {q : Sg} (hw : WF q) (hC : IC g q) (hM : IM g q)  : Ok (j_La_law_935 Lx v3 g) (Lp v3 g) := by
  unfold j_La_law_935
  exact lw (F := f_Da_looks) (G := f_Mo_looks) (pr_looks hw) hC hM (fun a _ => rfl)
theorem lc_easiest {Lx : Nat} {v3 : Int32} {g : M2} {q : Sg} (hw : WF q) (hC : IC g q) (hM : IM g q)  : Ok (j_La_law_942 Lx v3 g) (Lp v3 g) := by
  unfold j_La_law_942
  exact lw (F := f_Da_easiest) (G := f_Mo_easiest) (pr_easiest hw) hC hM (fun a _ => rfl)
theorem lc_deafer {Lx : Nat} {v3 : Int32} {g : M2} {q : Sg} (hw : WF q) (hC : IC g q) (hM : IM g q)  : Ok (j_La_law_949 Lx v3 g) (Lp v3 g) := by
  unfold j_La_law_949
  exact lw (F := f_Da_deafer) (G := f_Mo_deafer) (pr_deafer hw) hC hM (fun a _ => rfl)
theorem lc_sealed {Lx : Nat} {v3 : Int32} {g : M2} {q : Sg} (hw : WF q) (hC : IC g q) (hM : IM g q) (i1 : inb (v3 + 1) Lx) (i2 : inb (v3 + 2) Lx) (i3 : inb (v3 + 3) Lx) : Ok (j_La_law_956 Lx v3 g) (Lp v3 g) := by
  unfold j_La_law_956
  exact lw3 (F := f_Da_sealed) (G := f_Mo_sealed) i1 i2 i3 (fun x1 x2 x3 => pr_sealed hw x1 x2 x3) hC hM
theorem lc_placed (hP : ∀ {q : Sg}, WF q → ∀ x y : Int32, Pr (f_Da_placed x y) (f_Mo_placed x y) q) {Lx : Nat} {v3 : Int32} {g : M2} {q : Sg} (hw : WF q) (hC : IC g q) (hM : IM g q) (i1 : inb (v3 + 1) Lx) (i2 : inb (v3 + 2) Lx) : Ok (j_La_law_993 Lx v3 g) (Lp v3 g) := by
  unfold j_La_law_993
  exact lw2 (F := f_Da_placed) (G := f_Mo_placed) i1 i2 (fun x1 x2 => hP hw x1 x2) hC hM
theorem lc_better {Lx : Nat} {v3 : Int32} {g : M2} {q : Sg} (hw : WF q) (hC : IC g q) (hM : IM g q) (i1 : inb (v3 + 1) Lx) : Ok (j_La_law_1020 Lx v3 g) (Lp v3 g) := by
  unfold j_La_law_1020
  exact lw1 (F := f_Da_better) (G := f_Mo_better) i1 (fun x1 => pr_better hw x1) hC hM
theorem lc_both {Lx : Nat} {v3 : Int32} {g : M2} {q : Sg} (hw : WF q) (hC : IC g q) (hM : IM g q) (i1 : inb (v3 + 1) Lx) (i2 : inb (v3 + 2) Lx) (i3 : inb (v3 + 3) Lx) (i4 : inb (v3 + 4) Lx) (i5 : inb (v3 + 5) Lx) : Ok (j_La_law_1037 Lx v3 g) (Lp v3 g) := by
  unfold j_La_law_1037
  exact lw5 (F := f_Da_both) (G := f_Mo_both) i1 i2 i3 i4 i5 (fun x1 x2 x3 x4 x5 => pr_both hw x1 x2 x3 x4 x5) hC hM
theorem lc_tell {Lx : Nat} {v3 : Int32} {g : M2} {q : Sg} (hw : WF q) (hC : IC g q) (hM : IM g q) (i1 : inb (v3 + 1) Lx) : Ok (j_La_law_1095 Lx v3 g) (Lp v3 g) := by
  unfold j_La_law_1095
  exact lw1 (F := f_Da_tell) (G := f_Mo_tell) i1 (fun x1 => pr_tell hw x1) hC hM
theorem lc_octet {Lx : Nat} {v3 : Int32} {g : M2} {q : Sg} (hw : WF q) (hC : IC g q) (hM : IM g q) (i1 : inb (v3 + 1) Lx) : Ok (j_La_law_1112 Lx v3 g) (Lp v3 g) := by
  unfold j_La_law_1112
  exact lwp1 (F := f_Da_octet) (G := f_Mo_octet) hw i1 (fun x1 => pp_octet hw x1) hC hM
theorem lc_breaks {Lx : Nat} {v3 : Int32} {g : M2} {q : Sg} (hw : WF q) (hC : IC g q) (hM : IM g q) (i1 : inb (v3 + 1) Lx) : Ok (j_La_law_1129 Lx v3 g) (Lp v3 g) := by
  unfold j_La_law_1129
  exact lw1 (F := f_Da_breaks) (G := f_Mo_breaks) i1 (fun x1 => pr_breaks hw x1) hC hM
theorem lc_mends {Lx : Nat} {v3 : Int32} {g : M2} {q : Sg} (hw : WF q) (hC : IC g q) (hM : IM g q) (i1 : inb (v3 + 1) Lx) : Ok (j_La_law_1146 Lx v3 g) (Lp v3 g) := by
  unfold j_La_law_1146
  exact lw1 (F := f_Da_mends) (G := f_Mo_mends) i1 (fun x1 => pr_mends hw x1) hC hM
theorem lc_moves {Lx : Nat} {v3 : Int32} {g : M2} {q : Sg} (hw : WF q) (hC : IC g q) (hM : IM g q) (i1 : inb (v3 + 1) Lx) (i2 : inb (v3 + 2) Lx) : Ok (j_La_law_1163 Lx v3 g) (Lp v3 g) := by
  unfold j_La_law_1163
  exact lw2 (F := f_Da_moves) (G := f_Mo_moves) i1 i2 (fun x1 x2 => pr_moves hw x1 x2) hC hM
theorem lc_look {Lx : Nat} {v3 : Int32} {g : M2} {q : Sg} (hw : WF q) (hC : IC g q) (hM : IM g q) (i1 : inb (v3 + 1) Lx) : Ok (j_La_law_1190 Lx v3 g) (Lp v3 g) := by
  unfold j_La_law_1190
  exact lw1 (F := f_Da_look) (G := f_Mo_look) i1 (fun x1 => pr_look hw x1) hC hM
theorem lc_deaf {Lx : Nat} {v3 : Int32} {g : M2} {q : Sg} (hw : WF q) (hC : IC g q) (hM : IM g q) (i1 : inb (v3 + 1) Lx) : Ok (j_La_law_1207 Lx v3 g) (Lp v3 g) := by
  unfold j_La_law_1207
  exact lw1 (F := f_Da_deaf) (G := f_Mo_deaf) i1 (fun x1 => pr_deaf hw x1) hC hM
theorem lc_hear {Lx : Nat} {v3 : Int32} {g : M2} {q : Sg} (hw : WF q) (hC : IC g q) (hM : IM g q) (i1 : inb (v3 + 1) Lx) : Ok (j_La_law_1224 Lx v3 g) (Lp v3 g) := by
  unfold j_La_law_1224
  exact lw1 (F := f_Da_hear) (G := f_Mo_hear) i1 (fun x1 => pr_hear hw x1) hC hM
theorem lc_steps {Lx : Nat} {v3 : Int32} {g : M2} {q : Sg} (hw : WF q) (hC : IC g q) (hM : IM g q) (i1 : inb (v3 + 1) Lx) : Ok (j_La_law_1241 Lx v3 g) (Lp v3 g) := by
  unfold j_La_law_1241
  exact lw1 (F := f_Da_steps) (G := f_Mo_steps) i1 (fun x1 => pr_steps hw x1) hC hM
theorem law_round (hA : ∀ {q : Sg}, WF q → Pr f_Da_array f_Mo_array q) (hP : ∀ {q : Sg}, WF q → ∀ x y : Int32, Pr (f_Da_placed x y) (f_Mo_placed x y) q) {Lx i : Nat} {g : M2} {q : Sg} (hL : Lx ≤ 3072) (hi : 6 * i + 6 ≤ Lx) (hw : WF q) (hC : IC g q) (hM : IM g q) : Ok (b_La_law_10 Lx (cI (6 * i)) g) (Lp (cI (6 * i)) g) := by
  have e : ∀ k : Nat, k < 6 → inb (cI (6 * i) + cI k) Lx := fun k hk => by rw [cI_add]; exact inb_cI (by omega) (by omega)
  have i1 : inb (cI (6 * i) + 1) Lx := e 1 (by decide)
  have i2 : inb (cI (6 * i) + 2) Lx := e 2 (by decide)
  have i3 : inb (cI (6 * i) + 3) Lx := e 3 (by decide)
  have i4 : inb (cI (6 * i) + 4) Lx := e 4 (by decide)
  have i5 : inb (cI (6 * i) + 5) Lx := e 5 (by decide)
  unfold b_La_law_10
  have h6 : ¬ (Int32.ofNat Lx - (6 : Int32)) < cI (6 * i) := by
    show ¬ (cI Lx - cI 6) < cI (6 * i)
    rw [cI_sub (by omega)]
    exact lt_no (by omega) (by omega)
  refine ok_neg h6 (ok_pos (inb_cI (by omega) (by omega)) ?_)
  generalize (g.1 1001 (cI (6 * i)).toNatClampNeg) &&& (63 : Int32) = c
  have fin : Ok (some (Sum.inl (cI (6 * i) + (6 : Int32), g)) : Option Lo3) (Lp (cI (6 * i)) g) := ok_some ⟨g, rfl, ⟨q, hw, hC, hM⟩, rfl⟩
  exact ok_if (fun _ => lc_feed hw hC hM i1 i2 i3 i4 i5) (fun _ => ok_if (fun _ => lc_end hw hC hM i1) (fun _ => ok_if (fun _ => lc_array hA hw hC hM ) (fun _ => ok_if (fun _ => lc_fault hw hC hM i1) (fun _ => ok_if (fun _ => lc_count hw hC hM i1) (fun _ => ok_if (fun _ => lc_element hw hC hM i1 i2) (fun _ => ok_if (fun _ => lc_hears hw hC hM i1 i2) (fun _ => ok_if (fun _ => lc_wish hw hC hM i1 i2) (fun _ => ok_if (fun _ => lc_rank hw hC hM ) (fun _ => ok_if (fun _ => lc_solved hw hC hM ) (fun _ => ok_if (fun _ => lc_weight hw hC hM i1 i2) (fun _ => ok_if (fun _ => lc_gain hw hC hM i1 i2) (fun _ => ok_if (fun _ => lc_power hw hC hM i1 i2) (fun _ => ok_if (fun _ => lc_total hw hC hM i1) (fun _ => ok_if (fun _ => lc_louder hw hC hM i1 i2) (fun _ => ok_if (fun _ => lc_loud hw hC hM i1) (fun _ => ok_if (fun _ => lc_hush hw hC hM i1 i2 i3) (fun _ => ok_if (fun _ => lc_beam hw hC hM i1 i2) (fun _ => ok_if (fun _ => lc_share hw hC hM i1 i2) (fun _ => ok_if (fun _ => lc_room hw hC hM i1) (fun _ => ok_if (fun _ => lc_likeness hw hC hM i1 i2 i3) (fun _ => ok_if (fun _ => lc_nearest hw hC hM i1) (fun _ => ok_if (fun _ => lc_quiet hw hC hM ) (fun _ => ok_if (fun _ => lc_side hw hC hM ) (fun _ => ok_if (fun _ => lc_bounded hw hC hM i1 i2) (fun _ => ok_if (fun _ => lc_twins hw hC hM i1) (fun _ => ok_if (fun _ => lc_sets hw hC hM ) (fun _ => ok_if (fun _ => lc_without hw hC hM i1 i2) (fun _ => ok_if (fun _ => lc_spares hw hC hM ) (fun _ => ok_if (fun _ => lc_frail hw hC hM i1) (fun _ => ok_if (fun _ => lc_fewest hw hC hM i1) (fun _ => ok_if (fun _ => lc_leak hw hC hM i1 i2 i3) (fun _ => ok_if (fun _ => lc_weakest hw hC hM ) (fun _ => ok_if (fun _ => lc_cut hw hC hM i1 i2) (fun _ => ok_if (fun _ => lc_cutGain hw hC hM i1 i2) (fun _ => ok_if (fun _ => lc_cutPower hw hC hM i1 i2) (fun _ => ok_if (fun _ => lc_error hw hC hM i1 i2) (fun _ => ok_if (fun _ => lc_farthest hw hC hM ) (fun _ => ok_if (fun _ => lc_within hw hC hM i1) (fun _ => ok_if (fun _ => lc_coarsest hw hC hM i1 i2) (fun _ => ok_if (fun _ => lc_step hw hC hM i1) (fun _ => ok_if (fun _ => lc_exactly hw hC hM ) (fun _ => ok_if (fun _ => lc_polish hw hC hM i1 i2) (fun _ => ok_if (fun _ => lc_looks hw hC hM ) (fun _ => ok_if (fun _ => lc_easiest hw hC hM ) (fun _ => ok_if (fun _ => lc_deafer hw hC hM ) (fun _ => ok_if (fun _ => lc_sealed hw hC hM i1 i2 i3) (fun _ => ok_if (fun _ => lc_placed hP hw hC hM i1 i2) (fun _ => ok_if (fun _ => lc_better hw hC hM i1) (fun _ => ok_if (fun _ => lc_both hw hC hM i1 i2 i3 i4 i5) (fun _ => ok_if (fun _ => lc_tell hw hC hM i1) (fun _ => ok_if (fun _ => lc_octet hw hC hM i1) (fun _ => ok_if (fun _ => lc_breaks hw hC hM i1) (fun _ => ok_if (fun _ => lc_mends hw hC hM i1) (fun _ => ok_if (fun _ => lc_moves hw hC hM i1 i2) (fun _ => ok_if (fun _ => lc_look hw hC hM i1) (fun _ => ok_if (fun _ => lc_deaf hw hC hM i1) (fun _ => ok_if (fun _ => lc_hear hw hC hM i1) (fun _ => ok_if (fun _ => lc_steps hw hC hM i1) (fun _ => fin)))))))))))))))))))))))))))))))))))))))))))))))))))))))))))
def q0 : Sg := (0, fun _ => 0, 0, none, [], 0, 0, [], 0, -1, [])
theorem q0_W : WF q0 := by
  refine ⟨by decide, fun e he => absurd he (by show ¬ e < 0; omega), fun e f he => absurd he (by show ¬ e < 0; omega), by decide, fun k hk => (by cases hk), by decide, fun k hk => absurd hk (by show ¬ k ∈ ([] : List Nat); simp), by show ([] : List Nat).Nodup; simp, by decide, by decide, by decide, fun _ => ⟨rfl, rfl, rfl⟩, by decide, fun x hx => absurd hx (by show ¬ x ∈ ([] : List Nat); simp), by decide, by decide, fun x hx => absurd hx (by show ¬ x ∈ ([] : List Nat); simp)⟩
theorem q0_C (Ib : Nat → Nat → Int32) : IC (g0 Ib) q0 := by
  refine ⟨⟨rfl, by decide, fun e he => absurd he (by show ¬ e < 0; omega), rfl, by decide, rfl, fun k hk => (by cases hk), rfl, by decide, fun i hi => absurd hi (by show ¬ i < 0; omega)⟩, rfl, rfl, rfl, fun i hi => absurd hi (by show ¬ i < 0; omega), rfl, rfl, rfl, fun i hi => absurd hi (by show ¬ i < 0; omega), Or.inl rfl⟩
theorem q0_M (Ib : Nat → Nat → Int32) (hI : ∀ j, j < 24 → Ib 1002 j = mm_pw j) : IM (g0 Ib) q0 := by
  refine ⟨fun j hj => hI j hj, ⟨rfl, rfl, fun e he => absurd he (by show ¬ e < 0; omega), fun e he => absurd he (by show ¬ e < 0; omega), rfl, rfl, fun i hi => absurd hi (by show ¬ i < 0; omega), rfl⟩, rfl, fun i hi => absurd hi (by show ¬ i < 0; omega), rfl, rfl, rfl, fun i hi => absurd hi (by show ¬ i < 0; omega)⟩
theorem law_by (hA : ∀ {q : Sg}, WF q → Pr f_Da_array f_Mo_array q) (hP : ∀ {q : Sg}, WF q → ∀ x y : Int32, Pr (f_Da_placed x y) (f_Mo_placed x y) q) : ∀ (L : Nat) (Ib : Nat → Nat → Int32), L ≤ 3072 → (∀ j, j < 24 → Ib 1002 j = mm_pw j) → ∃ g2, f_La_law L (g0 Ib) = some (1, g2) := by
  intro L Ib hL hI
  have h : Ok (f_La_law L (g0 Ib)) (fun p => p.1 = 1) := by
    unfold f_La_law
    refine ok_bindm (Q := fun u => ∃ z, u = Sum.inl z) ?_ (fun u hu => ?_)
    · refine ok_lp (fun i st => ∃ z q, st = (cI (6 * i), z) ∧ WF q ∧ IC z q ∧ IM z q) (L / 6) 5000 0 _ (by omega) (Nat.zero_le _) ⟨g0 Ib, q0, rfl, q0_W, q0_C Ib, q0_M Ib hI⟩ ?_
      rintro i st hi ⟨z, q, rfl, hw, hC, hM⟩
      show Ok (b_La_law_10 L (cI (6 * i)) z) _
      by_cases hi2 : i = L / 6
      · unfold b_La_law_10
        refine ok_pos ?_ (ok_some ⟨z, rfl⟩)
        rw [Int32.lt_iff_toInt_lt, cI_toInt (by omega)]
        show (cI L - cI 6).toInt < _
        rw [c_sub, Int32.toInt_ofInt_of_le (by omega) (by omega)]
        omega
      · refine ok_mono (law_round hA hP hL (i := i) (by omega) hw hC hM) (fun r hr => ?_)
        obtain ⟨w, rfl, ⟨q2, h1, h2, h3⟩, _⟩ := hr
        refine ⟨by omega, w, q2, ?_, h1, h2, h3⟩
        show (cI (6 * i) + cI 6, w) = _
        rw [cI_add]; rfl
    · obtain ⟨z, rfl⟩ := hu
      exact ok_some rfl
  obtain ⟨p, e, hp⟩ := h
  refine ⟨p.2, ?_⟩
  rw [e, ← hp]
