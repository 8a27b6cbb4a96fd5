/-! breaking, mending, ending -/
theorem IC_set {g r : M2} {q q2 : Sg} (h : IC g q) (hP : PL r 7 (sn q2) (sp q2) (sb q2) (sl q2) (sd q2)) (h6 : r.1 7 6 = g.1 7 6) (h7 : r.1 7 7 = g.1 7 7) (e1 : ss q2 = ss q) (e2 : sL q2 = sL q) (e3 : st q2 = st q) (e4 : sf q2 = sf q) (e5 : sP q2 = sP q) (e6 : so q2 = so q) (k : ∀ y, y = 1 ∨ y = 2 ∨ y = 153 ∨ y = 154 → r.1 y = g.1 y) (h9 : r.1 0 9 = 1) : IC r q2 := by
  obtain ⟨a1, a2, a3, a4, a5, a6, a7, a8, a9, a10⟩ := h
  refine ⟨hP, by rw [h6, e1]; exact a2, by rw [h7, e2]; exact a3, by rw [k 1 (by decide), e3]; exact a4, fun i hi => ?_, by rw [k 1 (by decide), e4]; exact a6, by rw [k 1 (by decide), e5]; exact a7, by rw [k 153 (by decide), e6]; exact a8, fun i hi => ?_, Or.inl h9⟩
  · rw [e3] at hi ⊢; rw [k 2 (by decide)]; exact a5 i hi
  · rw [e6] at hi ⊢; rw [k 154 (by decide)]; exact a9 i hi
theorem IM_set {g r : M2} {q q2 : Sg} (h : IM g q) (hW : WD r q2) (e3 : st q2 = st q) (e4 : sf q2 = sf q) (e5 : sP q2 = sP q) (e6 : so q2 = so q) (k : ∀ y, y ≠ 160 → r.1 y = g.1 y) : IM r q2 := by
  obtain ⟨a1, a2, a3, a4, a5, a6, a7, a8⟩ := h
  refine ⟨fun j hj => by rw [k _ (by decide)]; exact a1 j hj, hW, by rw [k _ (by decide), e3]; exact a3, fun i hi => ?_, by rw [k _ (by decide), e4]; exact a5, by rw [k _ (by decide), e5]; exact a6, by rw [k _ (by decide), e6]; exact a7, fun i hi => ?_⟩
  · rw [e3] at hi ⊢; rw [k 167 (by decide)]; exact a4 i hi
  · rw [e6] at hi ⊢; rw [k 171 (by decide)]; exact a8 i hi
def wkn (n b : Nat) : Nat := ((List.range n).filter (fun i => !b.testBit i)).length
theorem wkn_s (n b : Nat) : wkn (n + 1) b = if b.testBit n then wkn n b else wkn n b + 1 := by
  unfold wkn
  rw [List.range_succ, List.filter_append, List.length_append]
  by_cases h : b.testBit n = true
  · rw [if_pos h]; simp [h]
  · rw [if_neg h]; simp [h]
theorem wkb : ∀ n : Nat, n < 6 → ∀ b : Nat, b < 32 → ((((1 : Int32) <<< (cI n &&& 31)) - 1) &&& (cI b ^^^ (-1 : Int32))) = cI ((2 ^ n - 1) &&& (31 ^^^ b)) ∧ bn ((2 ^ n - 1) &&& (31 ^^^ b)) = wkn n b ∧ ((2 ^ n - 1) &&& (31 ^^^ b)) < 32 := by decide +kernel
theorem pl_working {g : M2} {p n br : Nat} (h2 : g.1 p 2 = cI n) (hn : n ≤ 5) (h3 : g.1 p 3 = cI br) (hb : br < 32) : f_Pl_working p g = cI (wkn n br) := by
  unfold f_Pl_working f_Pl_workingBits
  obtain ⟨k1, k2, k3⟩ := wkb n (by omega) br hb
  rw [h2, h3, k1, bc32 g _ k3, k2]
theorem mo_whole {g : M2} {q : Sg} (hw : WF q) (h : WD g q) : f_Mo_whole g = some (cI (wkn (sn q) (sb q))) := by
  have hn := hw.1
  refine ok_to ?_
  unfold f_Mo_whole
  refine ok_bindm (Q := fun r => r = cI (wkn (sn q) (sb q))) ?_ (fun r hr => ok_some hr)
  refine ok_lp (fun k s => s = (cI (wkn k (sb q)), cI k)) (sn q) 5000 0 _ (by omega) (by omega) rfl ?_
  intro k s hk hs
  subst hs
  show Ok (b_Mo_whole_4 (cI (wkn k (sb q))) (cI k) g) _
  unfold b_Mo_whole_4
  rw [h.2.1]
  by_cases hkn : k = sn q
  · rw [hkn]
    exact ok_pos (le_yes (Nat.le_refl _) (by omega)) (ok_some rfl)
  · refine ok_neg (le_no (by omega) (by omega)) (ok_binde (mo_isBroken h (by omega) hn) ?_)
    by_cases hb : (sb q).testBit k = true
    · rw [if_pos hb]
      refine ok_neg (by decide) (ok_some ⟨by omega, ?_⟩)
      rw [wkn_s, if_pos hb, c_succ, show (0 : Int32) = cI 0 from rfl, cI_add]; rfl
    · rw [if_neg hb]
      refine ok_pos rfl (ok_some ⟨by omega, ?_⟩)
      rw [wkn_s, if_neg hb, c_succ, c_succ]
theorem or5 : ∀ s : Nat, s < 32 → ∀ j : Nat, j < 5 → (cI s ||| ((1 : Int32) <<< (cI j &&& 31))) = cI (s ||| 2 ^ j) ∧ (s ||| 2 ^ j) < 32 ∧ ∀ i : Nat, i < 5 → (s ||| 2 ^ j).testBit i = (decide (i = j) || s.testBit i) := by decide +kernel
theorem sub5 : ∀ s : Nat, s < 32 → ∀ j : Nat, j < 5 → s.testBit j = true → ∀ i : Nat, i < 5 → (s - 2 ^ j).testBit i = (!decide (i = j) && s.testBit i) := by decide +kernel
/-- broken bits laid anew -/
theorem br_C {g : M2} {q : Sg} (hw : WF q) (hg : IC g q) {b : Nat} {x : Int32} (hb : b < 32) (hx : x = cI b) : IC (uI (uI g 7 3 x) 0 9 1) (sn q, sp q, b, sl q, sd q, ss q, sL q, st q, sf q, sP q, so q) ∧ KC g (uI (uI g 7 3 x) 0 9 1) ∧ f_Pl_working 7 (uI (uI g 7 3 x) 0 9 1) = cI (wkn (sn q) b) := by
  obtain ⟨p1, p2, p3, p4, p5, p6, p7, p8, p9, p10⟩ := hg.1
  have k : ∀ y, y ≠ 7 → y ≠ 0 → (uI (uI g 7 3 x) 0 9 1).1 y = g.1 y := fun y y1 y2 => by rw [uI_o _ _ _ y2, uI_o _ _ _ y1]
  have k7 : ∀ j, j ≠ 3 → (uI (uI g 7 3 x) 0 9 1).1 7 j = g.1 7 j := fun j hj => by rw [uI_o _ _ _ (by decide), uI_k _ _ _ hj]
  have k3 : (uI (uI g 7 3 x) 0 9 1).1 7 3 = cI b := by rw [uI_o _ _ _ (by decide), uI_s]; exact hx
  refine ⟨IC_set (q := q) hg ⟨(k7 2 (by decide)).trans p1, p2, fun e he => by rw [k _ (by decide) (by decide)]; exact p3 e he, k3, hb, (k7 4 (by decide)).trans p6, p7, (k7 5 (by decide)).trans p8, p9, fun i hi => by rw [k _ (by decide) (by decide)]; exact p10 i hi⟩ (k7 6 (by decide)) (k7 7 (by decide)) rfl rfl rfl rfl rfl rfl (fun y hy => k y (by omega) (by omega)) (uI_s _ _ _ _), fun y hy => ⟨k y (by omega) (by omega), rfl⟩, pl_working ((k7 2 (by decide)).trans p1) p2 k3 hb⟩
theorem br_W {q : Sg} (hw : WF q) {b : Nat} (hb : b < 2 ^ sn q) : WF (sn q, sp q, b, sl q, sd q, ss q, sL q, st q, sf q, sP q, so q) := by
  obtain ⟨w1, w2, w3, w4, w5⟩ := hw
  exact ⟨w1, w2, w3, hb, w5⟩
theorem br_M {g : M2} {q : Sg} (hw : WF q) (hg : IM g q) {b e : Nat} (he : e < sn q) {x : Int32} (hx : x = if b.testBit e then 1 else 0) (ho : ∀ i, i < sn q → i ≠ e → b.testBit i = (sb q).testBit i) : IM (uI g 160 (7 + e) x) (sn q, sp q, b, sl q, sd q, ss q, sL q, st q, sf q, sP q, so q) ∧ KM g (uI g 160 (7 + e) x) := by
  have hn := hw.1
  have hd := hw.2.2.2.2.2.1
  obtain ⟨b1, b2, b3, b4, b5, b6, b7, b8⟩ := hg.2.1
  refine ⟨IM_set (q := q) hg ⟨by rw [uI_k _ _ _ (by omega)]; exact b1, by rw [uI_k _ _ _ (by omega)]; exact b2, fun i hi => ?_, fun i hi => ?_, by rw [uI_k _ _ _ (by omega)]; exact b5, by rw [uI_k _ _ _ (by omega)]; exact b6, fun i hi => by rw [uI_k _ _ _ (by omega)]; exact b7 i hi, by rw [uI_k _ _ _ (by omega)]; exact b8⟩ rfl rfl rfl rfl (fun y hy => uI_o _ _ _ hy), fun y hy => ⟨uI_o _ _ _ (by omega), rfl⟩⟩
  · have hi' : i < sn q := hi
    rw [uI_k _ _ _ (by omega)]; exact b3 i hi
  · have hi' : i < sn q := hi
    show _ = if b.testBit i then 1 else 0
    by_cases hie : i = e
    · rw [hie, uI_s]; exact hx
    · rw [uI_k _ _ _ (by omega), b4 i hi', ho i hi' hie]
theorem pr_breaks {q : Sg} (hw : WF q) (x : Int32) : Pr (f_Da_breaks x) (f_Mo_breaks x) q := by
  have hn5 := hw.1
  by_cases c : inb x (sn q)
  · have hx := c.2
    have hxe := inb_to c
    generalize x.toNatClampNeg = e at hx hxe
    subst hxe
    obtain ⟨o1, o2, o3⟩ := or5 (sb q) (b32 hw) e (by omega)
    by_cases hb : (sb q).testBit e = true
    · refine ⟨-5, q, hw, fun g hg => ?_, fun g hg => ?_⟩
      · unfold f_Da_breaks
        rw [da_has hw hg, if_pos c, pl_works hg.1.2.2.2.1 (b32 hw) (by omega), if_pos hb]
        exact ok_neg (by decide) (ok_pos rfl (ok_some ⟨rfl, hg, KC_rf g⟩))
      · unfold f_Mo_breaks
        refine ok_binde (mo_elem hw hg.2.1) ?_
        rw [if_pos c]
        refine ok_neg (by decide) (ok_binde (mo_isBroken hg.2.1 hx hn5) ?_)
        rw [if_pos hb]
        exact ok_neg (by decide) (ok_some ⟨rfl, hg, KM_rf g⟩)
    · have hlt : sb q ||| 2 ^ e < 2 ^ sn q := Nat.or_lt_two_pow hw.2.2.2.1 (Nat.pow_lt_pow_right (by decide) hx)
      refine ⟨cI (wkn (sn q) (sb q ||| 2 ^ e)), (sn q, sp q, sb q ||| 2 ^ e, sl q, sd q, ss q, sL q, st q, sf q, sP q, so q), br_W hw hlt, fun g hg => ?_, fun g hg => ?_⟩
      · unfold f_Da_breaks
        rw [da_has hw hg, if_pos c, pl_works hg.1.2.2.2.1 (b32 hw) (by omega), if_neg hb]
        refine ok_neg (by decide) (ok_neg (by decide) (ok_bd (ok_bd (ok_some ?_))))
        obtain ⟨k1, k2, k3⟩ := br_C hw hg o2 (x := g.1 7 3 ||| ((1 : Int32) <<< (cI e &&& 31))) (by rw [hg.1.2.2.2.1]; exact o1)
        exact ⟨k3, k1, k2⟩
      · unfold f_Mo_breaks
        refine ok_binde (mo_elem hw hg.2.1) ?_
        rw [if_pos c]
        refine ok_neg (by decide) (ok_binde (mo_isBroken hg.2.1 hx hn5) ?_)
        rw [if_neg hb, show (7 : Int32) = cI 7 from rfl, cI_add]
        refine ok_pos rfl (ok_pos (inb_cI (by omega) (by decide)) (ok_bd ?_))
        rw [cI_nat (by omega)]
        obtain ⟨k1, k2⟩ := br_M hw hg (b := sb q ||| 2 ^ e) hx (x := 1) (by rw [o3 e (by omega)]; simp) (fun i hi hie => by rw [o3 i (by omega)]; simp [hie])
        exact ok_binde (mo_whole (br_W hw hlt) k1.2.1) (ok_some ⟨rfl, k1, k2⟩)
  · refine ⟨-2, q, hw, fun g hg => ?_, fun g hg => ?_⟩
    · unfold f_Da_breaks
      rw [da_has hw hg, if_neg c]
      exact ok_pos rfl (ok_some ⟨rfl, hg, KC_rf g⟩)
    · unfold f_Mo_breaks
      refine ok_binde (mo_elem hw hg.2.1) ?_
      rw [if_neg c]
      exact ok_pos rfl (ok_some ⟨rfl, hg, KM_rf g⟩)
theorem pr_mends {q : Sg} (hw : WF q) (x : Int32) : Pr (f_Da_mends x) (f_Mo_mends x) q := by
  have hn5 := hw.1
  by_cases c : inb x (sn q)
  · have hx := c.2
    have hxe := inb_to c
    generalize x.toNatClampNeg = e at hx hxe
    subst hxe
    by_cases hb : (sb q).testBit e = true
    · have o3 := sub5 (sb q) (b32 hw) e (by omega) hb
      have o1 := clr5 (sb q) (b32 hw) e (by omega) hb
      have hlt : sb q - 2 ^ e < 2 ^ sn q := Nat.lt_of_le_of_lt (Nat.sub_le _ _) hw.2.2.2.1
      have o2 : sb q - 2 ^ e < 32 := Nat.lt_of_le_of_lt (Nat.sub_le _ _) (b32 hw)
      refine ⟨cI (wkn (sn q) (sb q - 2 ^ e)), (sn q, sp q, sb q - 2 ^ e, sl q, sd q, ss q, sL q, st q, sf q, sP q, so q), br_W hw hlt, fun g hg => ?_, fun g hg => ?_⟩
      · unfold f_Da_mends
        rw [da_has hw hg, if_pos c, pl_works hg.1.2.2.2.1 (b32 hw) (by omega), if_pos hb]
        refine ok_neg (by decide) (ok_pos rfl (ok_bd (ok_bd (ok_some ?_))))
        obtain ⟨k1, k2, k3⟩ := br_C hw hg o2 (x := g.1 7 3 &&& (((1 : Int32) <<< (cI e &&& 31)) ^^^ (-1 : Int32))) (by rw [hg.1.2.2.2.1]; exact o1)
        exact ⟨k3, k1, k2⟩
      · unfold f_Mo_mends
        refine ok_binde (mo_elem hw hg.2.1) ?_
        rw [if_pos c]
        refine ok_neg (by decide) (ok_binde (mo_isBroken hg.2.1 hx hn5) ?_)
        rw [if_pos hb, show (7 : Int32) = cI 7 from rfl, cI_add]
        refine ok_neg (by decide) (ok_pos (inb_cI (by omega) (by decide)) (ok_bd ?_))
        rw [cI_nat (by omega)]
        obtain ⟨k1, k2⟩ := br_M hw hg (b := sb q - 2 ^ e) hx (x := 0) (by rw [o3 e (by omega)]; simp) (fun i hi hie => by rw [o3 i (by omega)]; simp [hie])
        exact ok_binde (mo_whole (br_W hw hlt) k1.2.1) (ok_some ⟨rfl, k1, k2⟩)
    · refine ⟨-5, q, hw, fun g hg => ?_, fun g hg => ?_⟩
      · unfold f_Da_mends
        rw [da_has hw hg, if_pos c, pl_works hg.1.2.2.2.1 (b32 hw) (by omega), if_neg hb]
        exact ok_neg (by decide) (ok_neg (by decide) (ok_some ⟨rfl, hg, KC_rf g⟩))
      · unfold f_Mo_mends
        refine ok_binde (mo_elem hw hg.2.1) ?_
        rw [if_pos c]
        refine ok_neg (by decide) (ok_binde (mo_isBroken hg.2.1 hx hn5) ?_)
        rw [if_neg hb]
        exact ok_pos rfl (ok_some ⟨rfl, hg, KM_rf g⟩)
  · refine ⟨-2, q, hw, fun g hg => ?_, fun g hg => ?_⟩
    · unfold f_Da_mends
      rw [da_has hw hg, if_neg c]
      exact ok_pos rfl (ok_some ⟨rfl, hg, KC_rf g⟩)
    · unfold f_Mo_mends
      refine ok_binde (mo_elem hw hg.2.1) ?_
      rw [if_neg c]
      exact ok_pos rfl (ok_some ⟨rfl, hg, KM_rf g⟩)
