/-! the reference: elements and wishes laid, solved -/
/-- what a query may change of the reference's cells -/
def FM (g r : M2) : Prop := (∀ y, y < 157 ∨ y = 160 ∨ y = 161 ∨ y = 167 ∨ y = 171 ∨ 1000 < y → r.1 y = g.1 y ∧ r.2 y = g.2 y) ∧ ∀ j, j = 21 ∨ j = 28 ∨ j = 29 ∨ j = 38 → r.1 157 j = g.1 157 j
theorem FM_rf (g : M2) : FM g g := ⟨fun _ _ => ⟨rfl, rfl⟩, fun _ _ => rfl⟩
theorem FM_tr {g r z : M2} (h : FM g r) (k : FM r z) : FM g z := ⟨fun y hy => ⟨(k.1 y hy).1.trans (h.1 y hy).1, (k.1 y hy).2.trans (h.1 y hy).2⟩, fun j hj => (k.2 j hj).trans (h.2 j hj)⟩
theorem FM_K {g r : M2} (h : FM g r) : KM g r := fun y hy => h.1 y (by omega)
theorem WD_f {g r : M2} {q : Sg} (h : WD g q) (k : r.1 160 = g.1 160) : WD r q := by
  obtain ⟨b1, b2, b3, b4, b5, b6, b7, b8⟩ := h
  exact ⟨by rw [k]; exact b1, by rw [k]; exact b2, fun e he => by rw [k]; exact b3 e he, fun e he => by rw [k]; exact b4 e he, by rw [k]; exact b5, by rw [k]; exact b6, fun i hi => by rw [k]; exact b7 i hi, by rw [k]; exact b8⟩
theorem IM_f {g r : M2} {q : Sg} (h : IM g q) (k : FM g r) : IM r q := by
  obtain ⟨a1, a2, a3, a4, a5, a6, a7, a8⟩ := h
  exact ⟨fun j hj => by rw [(k.1 1002 (by omega)).1]; exact a1 j hj, WD_f a2 (k.1 160 (by omega)).1, by rw [k.2 21 (by omega)]; exact a3, fun i hi => by rw [(k.1 167 (by omega)).1]; exact a4 i hi, by rw [k.2 28 (by omega)]; exact a5, by rw [k.2 29 (by omega)]; exact a6, by rw [k.2 38 (by omega)]; exact a7, fun i hi => by rw [(k.1 171 (by omega)).1]; exact a8 i hi⟩
theorem mo_isBroken {g : M2} {q : Sg} (h : WD g q) {e : Nat} (he : e < sn q) (hn : sn q ≤ 5) : f_Mo_isBroken (cI e) g = some (if (sb q).testBit e then 1 else 0) := by
  unfold f_Mo_isBroken
  have e7 : (7 : Int32) + cI e = cI (7 + e) := by rw [show (7 : Int32) = cI 7 from rfl, cI_add]
  rw [e7, if_pos (inb_cI (by omega) (by decide)), cI_nat (by omega), h.2.2.2.1 e he]
  by_cases hb : (sb q).testBit e = true
  · rw [if_pos hb, if_pos rfl]
  · rw [if_neg hb, if_neg (by decide)]
/-- weights by element -/
def WA (r : M2) (q : Sg) (b : Nat) : Prop := ∀ e, e < sn q → r.1 166 e = if (sb q ||| b).testBit e then -1 else cI (wkl (sp q) (sb q ||| b) e).length
theorem mo_elements {g : M2} {q : Sg} (hw : WF q) (h : WD g q) {b : Nat} (hb : b < 32) : Ok (f_Mo_laysElements (cI b) g) (fun r => r.2 = g.2 ∧ (∀ y, y ≠ 157 → y ≠ 162 → y ≠ 166 → r.1 y = g.1 y) ∧ (∀ j, j ≠ 8 → r.1 157 j = g.1 157 j) ∧ r.1 157 8 = cI (wkl (sp q) (sb q ||| b) (sn q)).length ∧ (∀ i, i < (wkl (sp q) (sb q ||| b) (sn q)).length → r.1 162 i = cI ((wkl (sp q) (sb q ||| b) (sn q)).getD i 0)) ∧ WA r q b) := by
  have hn := hw.1
  unfold f_Mo_laysElements
  refine ok_bd (ok_bindm (Q := fun r => r.2 = g.2 ∧ (∀ y, y ≠ 157 → y ≠ 162 → y ≠ 166 → r.1 y = g.1 y) ∧ (∀ j, j ≠ 8 → r.1 157 j = g.1 157 j) ∧ r.1 157 8 = cI (wkl (sp q) (sb q ||| b) (sn q)).length ∧ (∀ i, i < (wkl (sp q) (sb q ||| b) (sn q)).length → r.1 162 i = cI ((wkl (sp q) (sb q ||| b) (sn q)).getD i 0)) ∧ WA r q b) ?_ (fun r hr => ok_some hr))
  refine ok_for (sn q) (by omega) (fun k z => z.2 = g.2 ∧ (∀ y, y ≠ 157 → y ≠ 162 → y ≠ 166 → z.1 y = g.1 y) ∧ (∀ j, j ≠ 8 → z.1 157 j = g.1 157 j) ∧ z.1 157 8 = cI (wkl (sp q) (sb q ||| b) k).length ∧ (∀ i, i < (wkl (sp q) (sb q ||| b) k).length → z.1 162 i = cI ((wkl (sp q) (sb q ||| b) k).getD i 0)) ∧ ∀ e, e < k → z.1 166 e = if (sb q ||| b).testBit e then -1 else cI (wkl (sp q) (sb q ||| b) e).length) ⟨rfl, fun y y1 _ _ => uI_o _ _ _ y1, fun j hj => uI_k _ _ _ hj, uI_s _ _ _ _, fun i hi => absurd hi (by simp [wkl]), fun e he => absurd he (by omega)⟩ ?_ ?_
  · rintro k z hk ⟨z1, z2, z3, z4, z5, z6⟩
    have hlen := wkl_len (sp q) (sb q ||| b) k
    show Ok (b_Mo_laysElements_5 (cI b) (cI k) z) _
    unfold b_Mo_laysElements_5
    rw [z2 160 (by decide) (by decide) (by decide), h.2.1]
    refine ok_neg (le_no hk (by omega)) (ok_pos (inb_cI (by omega) (by decide)) (ok_bd ?_))
    simp only [cI_nat (show k < 2 ^ 31 by omega)]
    generalize hz3 : uI z 166 k (-1) = z0
    have w1 : ∀ y, y ≠ 166 → z0.1 y = z.1 y := fun y hy => by rw [← hz3]; exact uI_o _ _ _ hy
    have w2 : z0.1 166 k = -1 := by rw [← hz3]; exact uI_s _ _ _ _
    have w3 : ∀ j, j ≠ k → z0.1 166 j = z.1 166 j := fun j hj => by rw [← hz3]; exact uI_k _ _ _ hj
    have w4 : z0.2 = z.2 := by rw [← hz3]; rfl
    refine ok_binde (mo_isBroken (WD_f h (by rw [w1 _ (by decide)]; exact z2 160 (by decide) (by decide) (by decide))) hk hn) ?_
    rw [tb5 b hb k (by omega), wkl_s]
    have skip : (sb q ||| b).testBit k = true → (z0.2 = g.2 ∧ (∀ y, y ≠ 157 → y ≠ 162 → y ≠ 166 → z0.1 y = g.1 y) ∧ (∀ j, j ≠ 8 → z0.1 157 j = g.1 157 j) ∧ z0.1 157 8 = cI (wkl (sp q) (sb q ||| b) k).length ∧ (∀ i, i < (wkl (sp q) (sb q ||| b) k).length → z0.1 162 i = cI ((wkl (sp q) (sb q ||| b) k).getD i 0)) ∧ ∀ e, e < k + 1 → z0.1 166 e = if (sb q ||| b).testBit e then -1 else cI (wkl (sp q) (sb q ||| b) e).length) := by
      intro hbit
      refine ⟨w4.trans z1, fun y y1 y2 y3 => by rw [w1 y y3]; exact z2 y y1 y2 y3, fun j hj => by rw [w1 _ (by decide)]; exact z3 j hj, by rw [w1 _ (by decide)]; exact z4, fun i hi => by rw [w1 _ (by decide)]; exact z5 i hi, fun e he => ?_⟩
      by_cases hek : e = k
      · rw [hek, if_pos hbit]; exact w2
      · rw [w3 e hek]; exact z6 e (by omega)
    by_cases h1 : (sb q).testBit k = true
    · rw [if_pos h1]
      have hor : (sb q ||| b).testBit k = true := by rw [Nat.testBit_or, h1]; rfl
      rw [if_pos hor]
      exact ok_neg (by decide) (ok_some ⟨c_succ k, skip hor⟩)
    · rw [if_neg h1]
      refine ok_pos rfl ?_
      by_cases h2 : b.testBit k = true
      · rw [if_pos h2]
        have hor : (sb q ||| b).testBit k = true := by rw [Nat.testBit_or, h2, Bool.or_true]
        rw [if_pos hor]
        exact ok_pos rfl (ok_some ⟨c_succ k, skip hor⟩)
      · rw [if_neg h2]
        have hor : ¬ (sb q ||| b).testBit k = true := by rw [Nat.testBit_or, Bool.or_eq_true]; exact fun e => e.elim h1 h2
        rw [if_neg hor]
        have e2 : (2 : Int32) + cI k = cI (2 + k) := by rw [show (2 : Int32) = cI 2 from rfl, cI_add]
        refine ok_neg (by decide) (ok_pos (inb_cI (by omega) (by decide)) (ok_bd ?_))
        rw [e2, uI_o _ _ _ (show 157 ≠ 166 by decide), w1 157 (by decide), z4, uI_o _ _ _ (show 160 ≠ 166 by decide), w1 160 (by decide), z2 160 (by decide) (by decide) (by decide)]
        refine ok_pos (inb_cI (by omega) (by decide)) (ok_pos (inb_cI (by omega) (by decide)) (ok_bd (ok_bd (ok_some ⟨c_succ k, ?_⟩))))
        rw [cI_nat (by omega), cI_nat (by omega), h.2.2.1 k hk, uI_o _ _ _ (show 157 ≠ 162 by decide), uI_o _ _ _ (show 157 ≠ 166 by decide), w1 157 (by decide), z4]
        refine ⟨?_, fun y y1 y2 y3 => ?_, fun j hj => ?_, ?_, fun i hi => ?_, fun e he => ?_⟩
        · show z0.2 = g.2
          rw [w4]; exact z1
        · rw [uI_o _ _ _ y1, uI_o _ _ _ y2, uI_o _ _ _ y3, w1 y y3]; exact z2 y y1 y2 y3
        · rw [uI_k _ _ _ hj, uI_o _ _ _ (by decide), uI_o _ _ _ (by decide), w1 _ (by decide)]; exact z3 j hj
        · rw [uI_s, List.length_append]; exact c_succ _
        · rw [uI_o _ _ _ (by decide)]
          rw [List.length_append] at hi
          simp only [List.length_cons, List.length_nil] at hi
          by_cases hil : i = (wkl (sp q) (sb q ||| b) k).length
          · rw [hil, uI_s, List.getD_eq_getElem?_getD, List.getElem?_append_right (Nat.le_refl _), Nat.sub_self]; rfl
          · rw [uI_k _ _ _ hil, uI_o _ _ _ (by decide), w1 _ (by decide), z5 i (by omega), List.getD_eq_getElem?_getD, List.getD_eq_getElem?_getD, List.getElem?_append_left (by omega)]
        · rw [uI_o _ _ _ (by decide), uI_o _ _ _ (by decide)]
          by_cases hek : e = k
          · rw [hek, uI_s, if_neg hor]
          · rw [uI_k _ _ _ hek, w3 e hek]; exact z6 e (by omega)
  · rintro z ⟨z1, z2, z3, z4, z5, z6⟩
    show Ok (b_Mo_laysElements_5 (cI b) (cI (sn q)) z) _
    unfold b_Mo_laysElements_5
    rw [z2 160 (by decide) (by decide) (by decide), h.2.1]
    exact ok_pos (le_yes (Nat.le_refl _) (by omega)) (ok_some ⟨z1, z2, z3, z4, z5, z6⟩)
/-- deaf ones but a look -/
def dsx (lk : Option Nat) (ds : List Nat) : List Nat := ds.filter (fun d => decide (lk ≠ some d))
theorem dsx_len (lk : Option Nat) (ds : List Nat) : (dsx lk ds).length ≤ ds.length := List.length_filter_le _ _
theorem lkI_eq {lk : Option Nat} (h : ∀ k, lk = some k → k < 12) {d : Nat} (hd : d < 12) : cI d = lkI lk ↔ lk = some d := by
  cases lk with
  | none =>
    have key : ∀ k : Nat, k < 12 → ¬ (cI k = (-1 : Int32)) := by decide +kernel
    exact ⟨fun e => absurd e (key d hd), fun e => by cases e⟩
  | some k =>
    have hk := h k rfl
    constructor
    · intro e; rw [(cI_inj (by omega) (by omega)).mp e]
    · intro e; cases e; rfl
theorem mo_wishes {g : M2} {q : Sg} (hw : WF q) (h : WD g q) {lk : Option Nat} (hlk : ∀ k, lk = some k → k < 12) (hl5 : (wll lk (dsx lk (sd q))).length ≤ 5) : Ok (f_Mo_laysWishes (lkI lk) g) (fun r => r.2 = g.2 ∧ (∀ y, y ≠ 157 → y ≠ 163 → r.1 y = g.1 y) ∧ (∀ j, j ≠ 10 → j ≠ 11 → r.1 157 j = g.1 157 j) ∧ r.1 157 10 = cI (wll lk (dsx lk (sd q))).length ∧ (∀ i, i < (wll lk (dsx lk (sd q))).length → r.1 163 i = cI (wsl lk (dsx lk (sd q)) i)) ∧ r.1 157 11 = (if lk.isSome then 1 else 0)) := by
  have hd12 : ∀ i, i < (sd q).length → (sd q).getD i 0 < 12 := fun i hi => hw.2.2.2.2.2.2.1 _ (by
    rw [List.getD_eq_getElem?_getD, List.getElem?_eq_getElem hi]; exact List.getElem_mem _)
  have hd4 := hw.2.2.2.2.2.1
  have key : ∀ (g1 : M2), g1.2 = g.2 → (∀ y, y ≠ 157 → y ≠ 163 → g1.1 y = g.1 y) → (∀ j, j ≠ 10 → j ≠ 11 → g1.1 157 j = g.1 157 j) → g1.1 157 11 = (if lk.isSome then 1 else 0) → g1.1 157 10 = cI lk.toList.length → (∀ i, i < lk.toList.length → g1.1 163 i = cI (lk.toList.getD i 0)) → Ok (j_Mo_laysWishes_22 (lkI lk) g1) (fun r => r.2 = g.2 ∧ (∀ y, y ≠ 157 → y ≠ 163 → r.1 y = g.1 y) ∧ (∀ j, j ≠ 10 → j ≠ 11 → r.1 157 j = g.1 157 j) ∧ r.1 157 10 = cI (wll lk (dsx lk (sd q))).length ∧ (∀ i, i < (wll lk (dsx lk (sd q))).length → r.1 163 i = cI (wsl lk (dsx lk (sd q)) i)) ∧ r.1 157 11 = (if lk.isSome then 1 else 0)) := by
    intro g1 f1 f2 f3 f4 f5 f6
    unfold j_Mo_laysWishes_22
    refine ok_bindm (Q := fun r => r.2 = g.2 ∧ (∀ y, y ≠ 157 → y ≠ 163 → r.1 y = g.1 y) ∧ (∀ j, j ≠ 10 → j ≠ 11 → r.1 157 j = g.1 157 j) ∧ r.1 157 10 = cI (wll lk (dsx lk (sd q))).length ∧ (∀ i, i < (wll lk (dsx lk (sd q))).length → r.1 163 i = cI (wsl lk (dsx lk (sd q)) i)) ∧ r.1 157 11 = (if lk.isSome then 1 else 0)) ?_ (fun r hr => ok_some hr)
    refine ok_for (sd q).length (by omega) (fun k z => z.2 = g.2 ∧ (∀ y, y ≠ 157 → y ≠ 163 → z.1 y = g.1 y) ∧ (∀ j, j ≠ 10 → j ≠ 11 → z.1 157 j = g.1 157 j) ∧ z.1 157 10 = cI (wll lk (dsx lk ((sd q).take k))).length ∧ (∀ i, i < (wll lk (dsx lk ((sd q).take k))).length → z.1 163 i = cI (wsl lk (dsx lk ((sd q).take k)) i)) ∧ z.1 157 11 = (if lk.isSome then 1 else 0)) ⟨f1, f2, f3, by simpa [wll, dsx] using f5, fun i hi => by simpa [wsl, wll, dsx] using f6 i (by simpa [wll, dsx] using hi), f4⟩ ?_ ?_
    · rintro k z hk ⟨z1, z2, z3, z4, z5, z6⟩
      show Ok (b_Mo_laysWishes_24 (lkI lk) (cI k) z) _
      unfold b_Mo_laysWishes_24
      have e14 : (14 : Int32) + cI k = cI (14 + k) := by rw [show (14 : Int32) = cI 14 from rfl, cI_add]
      rw [z2 160 (by decide) (by decide), h.2.2.2.2.2.1, e14]
      refine ok_neg (le_no hk (by omega)) (ok_pos (inb_cI (by omega) (by decide)) ?_)
      simp only [cI_nat (show 14 + k < 2 ^ 31 by omega), h.2.2.2.2.2.2.1 k hk]
      have hsplit : dsx lk ((sd q).take (k + 1)) = if lk = some ((sd q).getD k 0) then dsx lk ((sd q).take k) else dsx lk ((sd q).take k) ++ [(sd q).getD k 0] := by
        unfold dsx
        rw [take_app _ hk, List.filter_append]
        by_cases hc : lk = some ((sd q).getD k 0)
        · rw [if_pos hc, List.filter_cons, if_neg (by rw [decide_eq_true_eq]; exact fun e => e hc), List.filter_nil, List.append_nil]
        · rw [if_neg hc, List.filter_cons, if_pos (decide_eq_true hc), List.filter_nil]
      have hle : (wll lk (dsx lk ((sd q).take (k + 1)))).length ≤ 5 := by
        have : (dsx lk ((sd q).take (k + 1))).length ≤ (dsx lk (sd q)).length := by
          unfold dsx
          exact (List.Sublist.filter _ (List.take_sublist _ _)).length_le
        unfold wll at hl5 ⊢
        rw [List.length_append] at hl5 ⊢
        omega
      by_cases hc : lk = some ((sd q).getD k 0)
      · refine ok_pos ((lkI_eq hlk (hd12 k hk)).mpr hc) (ok_some ⟨c_succ k, ?_⟩)
        rw [hsplit, if_pos hc]
        exact ⟨z1, z2, z3, z4, z5, z6⟩
      · refine ok_neg (fun e => hc ((lkI_eq hlk (hd12 k hk)).mp e)) (ok_pos (inb_cI (by omega) (by decide)) ?_)
        rw [hsplit, if_neg hc] at hle
        rw [hsplit, if_neg hc]
        have hl2 : (wll lk (dsx lk ((sd q).take k) ++ [(sd q).getD k 0])).length = (wll lk (dsx lk ((sd q).take k))).length + 1 := by
          unfold wll; simp; omega
        rw [z4]
        refine ok_pos (inb_cI (by omega) (by decide)) (ok_bd (ok_bd (ok_some ⟨c_succ k, ?_⟩)))
        rw [cI_nat (by omega), uI_o _ _ _ (show 157 ≠ 163 by decide), z4]
        refine ⟨z1, fun y y1 y2 => by rw [uI_o _ _ _ y1, uI_o _ _ _ y2]; exact z2 y y1 y2, fun j j1 j2 => by rw [uI_k _ _ _ j1, uI_o _ _ _ (by decide)]; exact z3 j j1 j2, by rw [uI_s, hl2]; exact c_succ _, fun i hi => ?_, by rw [uI_k _ _ _ (by decide), uI_o _ _ _ (by decide)]; exact z6⟩
        rw [uI_o _ _ _ (by decide)]
        have hws : wsl lk (dsx lk ((sd q).take k) ++ [(sd q).getD k 0]) i = ((wll lk (dsx lk ((sd q).take k))) ++ [(sd q).getD k 0]).getD i 0 := by
          unfold wsl wll; rw [List.append_assoc]
        rw [hws]
        by_cases hil : i = (wll lk (dsx lk ((sd q).take k))).length
        · rw [hil, uI_s, List.getD_eq_getElem?_getD (l := wll lk (dsx lk ((sd q).take k)) ++ _), List.getElem?_append_right (Nat.le_refl _), Nat.sub_self]; rfl
        · rw [uI_k _ _ _ hil, z5 i (by omega), List.getD_eq_getElem?_getD (l := wll lk (dsx lk ((sd q).take k)) ++ _), List.getElem?_append_left (by omega)]
          unfold wsl; rw [List.getD_eq_getElem?_getD]
    · rintro z ⟨z1, z2, z3, z4, z5, z6⟩
      show Ok (b_Mo_laysWishes_24 (lkI lk) (cI (sd q).length) z) _
      unfold b_Mo_laysWishes_24
      rw [z2 160 (by decide) (by decide), h.2.2.2.2.2.1]
      rw [List.take_length] at z4 z5
      exact ok_pos (le_yes (Nat.le_refl _) (by omega)) (ok_some ⟨z1, z2, z3, z4, z5, z6⟩)
  unfold f_Mo_laysWishes
  refine ok_bd ?_
  cases hl : lk with
  | none =>
    refine ok_pos rfl (ok_bd ?_)
    unfold j_Mo_laysWishes_11
    rw [uI_s]
    refine ok_pos rfl ?_
    have := key (uI (uI g 157 10 0) 157 11 0) rfl (fun y y1 _ => by rw [uI_o _ _ _ y1, uI_o _ _ _ y1]) (fun j j1 j2 => by rw [uI_k _ _ _ j2, uI_k _ _ _ j1]) (by rw [uI_s, hl]; rfl) (by rw [uI_k _ _ _ (by decide), uI_s, hl]; rfl) (fun i hi => by rw [hl] at hi; exact absurd hi (by simp))
    rw [hl] at this
    exact this
  | some k =>
    refine ok_neg (fun e => by have := (lkI_no (lk := some k) (fun k2 hk2 => hlk k2 (hl.trans hk2))).mp e; cases this) (ok_bd ?_)
    unfold j_Mo_laysWishes_11
    rw [uI_s]
    refine ok_neg (by decide) (ok_bd (ok_bd ?_))
    have := key (uI (uI (uI (uI g 157 10 0) 157 11 1) 163 0 (lkI (some k))) 157 10 1) rfl (fun y y1 y2 => by rw [uI_o _ _ _ y1, uI_o _ _ _ y2, uI_o _ _ _ y1, uI_o _ _ _ y1]) (fun j j1 j2 => by rw [uI_k _ _ _ j1, uI_o _ _ _ (by decide), uI_k _ _ _ j2, uI_k _ _ _ j1]) (by rw [uI_k _ _ _ (by decide), uI_o _ _ _ (by decide), uI_s, hl]; rfl) (by rw [uI_s, hl]; rfl) (fun i hi => by
      rw [hl] at hi ⊢
      have : i = 0 := by simpa using hi
      subst this
      rw [uI_o _ _ _ (by decide), uI_s]; rfl)
    rw [hl] at this
    exact this
