/-! hear, deaf, look, count -/
theorem fd_mem {k d : Nat} {ds : List Nat} : d ∈ fd k ds ↔ d ∈ ds ∧ d ≠ k := by
  unfold fd; rw [List.mem_filter, decide_eq_true_eq]
theorem fd_W {q : Sg} (hw : WF q) (k : Nat) {lk : Option Nat} (hlk : ∀ j, lk = some j → j < 12 ∧ j ∉ fd k (sd q)) (h0 : sL q ≠ 0) : WF (sn q, sp q, sb q, lk, fd k (sd q), ss q, sL q, st q, sf q, sP q, so q) := by
  obtain ⟨w1, w2, w3, w4, w5, w6, w7, w8, w9, w10, w11, w12, w13⟩ := hw
  exact ⟨w1, w2, w3, w4, hlk, Nat.le_trans (fd_len _ _) w6, fun j hj => w7 j (fd_mem.mp hj).1, List.Pairwise.filter _ w8, w9, w10, w11, fun e => absurd e h0, w13⟩
theorem pr_hear {q : Sg} (hw : WF q) (x : Int32) : Pr (f_Da_hear x) (f_Mo_hear x) q := by
  by_cases c : inb x 12
  · by_cases h0 : sL q = 0
    · refine ⟨-2, q, hw, fun g hg => ?_, fun g hg => ?_⟩
      · unfold f_Da_hear
        rw [da_dir, if_pos c, da_none hw hg, if_pos h0]
        exact ok_neg (by decide) (ok_neg (by decide) (ok_some ⟨rfl, hg, KC_rf g⟩))
      · unfold f_Mo_hear
        refine ok_binde (mo_arr hw hg.2.1) ?_
        rw [if_pos h0]
        exact ok_pos rfl (ok_some ⟨rfl, hg, KM_rf g⟩)
    · have hx := c.2
      have hxe := inb_to c
      generalize x.toNatClampNeg = k at hx hxe
      subst hxe
      have hdb := db_lt hw.2.2.2.2.2.2.1
      by_cases hm : k ∈ sd q
      · refine ⟨cI (fd k (sd q)).length, (sn q, sp q, sb q, sl q, fd k (sd q), ss q, sL q, st q, sf q, sP q, so q), fd_W hw k (fun j hj => ⟨(hw.2.2.2.2.1 j hj).1, fun e => (hw.2.2.2.2.1 j hj).2 (fd_mem.mp e).1⟩) h0, fun g hg => ?_, fun g hg => ?_⟩
        · unfold f_Da_hear
          rw [da_dir, if_pos c, da_none hw hg, if_neg h0]
          refine ok_neg (by decide) (ok_pos rfl (ok_binde (pl_deafBits hg.1) ?_))
          rw [tb12 hdb hx, db_bit, if_pos (decide_eq_true hm)]
          refine ok_neg (by decide) (ok_bindm (pl_dropDeaf hg.1 hx) (fun r hr => ok_bd (ok_some ?_)))
          obtain ⟨r1, r2, r3, r4⟩ := hr
          refine ⟨?_, IC_set (q := q) hg (PL_k r1 (fun y _ _ => uI_o _ _ _ (by omega))) ?_ ?_ rfl rfl rfl rfl rfl rfl (fun y hy => ?_) (uI_s _ _ _ _), fun y hy => ⟨?_, ?_⟩⟩
          · show (uI r 0 9 1).1 7 5 = _
            rw [uI_o _ _ _ (by decide)]; exact r1.2.2.2.2.2.2.2.1
          · rw [uI_o _ _ _ (by decide)]; exact r3 6 (by decide)
          · rw [uI_o _ _ _ (by decide)]; exact r3 7 (by decide)
          · rw [uI_o _ _ _ (by omega)]; exact r2 y (by omega) (by omega)
          · show (uI r 0 9 1).1 y = _
            rw [uI_o _ _ _ (by omega)]; exact r2 y (by omega) (by omega)
          · show r.2 y = _
            rw [r4]
        · unfold f_Mo_hear
          refine ok_binde (mo_arr hw hg.2.1) ?_
          rw [if_neg h0, mo_dir, if_pos c]
          refine ok_neg (by decide) (ok_neg (by decide) (ok_bindm (mo_deafAt hw hg.2.1 hx) (fun r hr => ?_)))
          rcases hr with ⟨_, r2⟩ | ⟨r1, _⟩
          · exact absurd hm r2
          · refine ok_neg r1 (ok_bindm (mo_deafAt hw hg.2.1 hx) (fun r hr => ?_))
            rcases hr with ⟨_, r2⟩ | ⟨_, i, i1, i2, i3⟩
            · exact absurd hm r2
            · subst i3
              refine ok_bindm (mo_takesOut hw hg.2.1 i1) (fun z hz => ok_some ?_)
              rw [← fd_erase _ i hw.2.2.2.2.2.2.2.1 i1 i2] at hz
              obtain ⟨z1, z2, z3⟩ := hz
              exact ⟨z1.2.2.2.2.2.1, IM_set (q := q) hg z1 rfl rfl rfl rfl z2, fun y hy => ⟨z2 y (by omega), by rw [z3]⟩⟩
      · refine ⟨-5, q, hw, fun g hg => ?_, fun g hg => ?_⟩
        · unfold f_Da_hear
          rw [da_dir, if_pos c, da_none hw hg, if_neg h0]
          refine ok_neg (by decide) (ok_pos rfl (ok_binde (pl_deafBits hg.1) ?_))
          rw [tb12 hdb hx, db_bit, if_neg (show ¬ decide (k ∈ sd q) = true from fun e => hm (of_decide_eq_true e))]
          exact ok_pos rfl (ok_some ⟨rfl, hg, KC_rf g⟩)
        · unfold f_Mo_hear
          refine ok_binde (mo_arr hw hg.2.1) ?_
          rw [if_neg h0, mo_dir, if_pos c]
          refine ok_neg (by decide) (ok_neg (by decide) (ok_bindm (mo_deafAt hw hg.2.1 hx) (fun r hr => ?_)))
          rcases hr with ⟨r1, _⟩ | ⟨_, i, i1, i2, _⟩
          · exact ok_pos r1 (ok_some ⟨rfl, hg, KM_rf g⟩)
          · exact absurd (mem_getD.mpr ⟨i, i1, i2⟩) hm
  · refine ⟨-2, q, hw, fun g hg => ?_, fun g hg => ?_⟩
    · unfold f_Da_hear
      rw [da_dir, if_neg c]
      exact ok_pos rfl (ok_some ⟨rfl, hg, KC_rf g⟩)
    · unfold f_Mo_hear
      refine ok_binde (mo_arr hw hg.2.1) (ok_if (fun _ => ok_some ⟨rfl, hg, KM_rf g⟩) (fun _ => ?_))
      rw [mo_dir, if_neg c]
      exact ok_pos rfl (ok_some ⟨rfl, hg, KM_rf g⟩)
theorem pr_look {q : Sg} (hw : WF q) (x : Int32) : Pr (f_Da_look x) (f_Mo_look x) q := by
  by_cases c : inb x 12
  · by_cases h0 : sL q = 0
    · refine ⟨-2, q, hw, fun g hg => ?_, fun g hg => ?_⟩
      · unfold f_Da_look
        rw [da_dir, if_pos c, da_none hw hg, if_pos h0]
        exact ok_neg (by decide) (ok_neg (by decide) (ok_some ⟨rfl, hg, KC_rf g⟩))
      · unfold f_Mo_look
        refine ok_binde (mo_arr hw hg.2.1) ?_
        rw [if_pos h0]
        exact ok_pos rfl (ok_some ⟨rfl, hg, KM_rf g⟩)
    · have hx := c.2
      have hxe := inb_to c
      generalize x.toNatClampNeg = k at hx hxe
      subst hxe
      have hle := lkI_eq (lk := sl q) (fun j hj => (hw.2.2.2.2.1 j hj).1) hx
      by_cases hs : sl q = some k
      · have he : lkI (sl q) = cI k := (hle.mpr hs).symm
        refine ⟨-5, q, hw, fun g hg => ?_, fun g hg => ?_⟩
        · unfold f_Da_look
          rw [da_dir, if_pos c, da_none hw hg, if_neg h0, hg.1.2.2.2.2.2.1]
          exact ok_neg (by decide) (ok_pos rfl (ok_pos he (ok_some ⟨rfl, hg, KC_rf g⟩)))
        · unfold f_Mo_look
          refine ok_binde (mo_arr hw hg.2.1) ?_
          rw [if_neg h0, mo_dir, if_pos c]
          exact ok_neg (by decide) (ok_neg (by decide) (ok_binde (look_now hg.2.1) (ok_pos he (ok_some ⟨rfl, hg, KM_rf g⟩))))
      · have he : ¬ lkI (sl q) = cI k := fun e => hs (hle.mp e.symm)
        have hW : WF (sn q, sp q, sb q, some k, fd k (sd q), ss q, sL q, st q, sf q, sP q, so q) := fd_W hw k (fun j hj => by
          cases hj
          exact ⟨hx, fun e => (fd_mem.mp e).2 rfl⟩) h0
        refine ⟨lkI (sl q), (sn q, sp q, sb q, some k, fd k (sd q), ss q, sL q, st q, sf q, sP q, so q), hW, fun g hg => ?_, fun g hg => ?_⟩
        · unfold f_Da_look
          rw [da_dir, if_pos c, da_none hw hg, if_neg h0, hg.1.2.2.2.2.2.1]
          refine ok_neg (by decide) (ok_pos rfl (ok_neg he ?_))
          refine ok_bindm (Q := fun r => PL r 7 (sn q) (sp q) (sb q) (some k) (fd k (sd q)) ∧ (∀ y, y ≠ 7 → y ≠ 9 → r.1 y = g.1 y) ∧ (∀ j, j ≠ 5 → j ≠ 4 → r.1 7 j = g.1 7 j) ∧ r.2 = g.2) ?_ (fun r hr => ok_bd (ok_some ?_))
          · unfold f_Pl_turnTo
            refine ok_bindm (pl_dropDeaf hg.1 hx) (fun r hr => ok_bd (ok_some ?_))
            obtain ⟨⟨p1, p2, p3, p4, p5, p6, p7, p8, p9, p10⟩, r2, r3, r4⟩ := hr
            refine ⟨⟨by rw [uI_k _ _ _ (by decide)]; exact p1, p2, fun e he => by rw [uI_o _ _ _ (by decide)]; exact p3 e he, by rw [uI_k _ _ _ (by decide)]; exact p4, p5, uI_s _ _ _ _, fun j hj => by cases hj; exact hx, by rw [uI_k _ _ _ (by decide)]; exact p8, p9, fun i hi => by rw [uI_o _ _ _ (by decide)]; exact p10 i hi⟩, fun y y1 y2 => by rw [uI_o _ _ _ y1]; exact r2 y y1 y2, fun j j1 j2 => by rw [uI_k _ _ _ j2]; exact r3 j j1, r4⟩
          · obtain ⟨r1, r2, r3, r4⟩ := hr
            refine ⟨rfl, IC_set (q := q) hg (PL_k r1 (fun y _ _ => uI_o _ _ _ (by omega))) ?_ ?_ rfl rfl rfl rfl rfl rfl (fun y hy => ?_) (uI_s _ _ _ _), fun y hy => ⟨?_, ?_⟩⟩
            · rw [uI_o _ _ _ (by decide)]; exact r3 6 (by decide) (by decide)
            · rw [uI_o _ _ _ (by decide)]; exact r3 7 (by decide) (by decide)
            · rw [uI_o _ _ _ (by omega)]; exact r2 y (by omega) (by omega)
            · show (uI r 0 9 1).1 y = _
              rw [uI_o _ _ _ (by omega)]; exact r2 y (by omega) (by omega)
            · show r.2 y = _
              rw [r4]
        · have fin : ∀ z : M2, WD z (sn q, sp q, sb q, sl q, fd k (sd q), ss q, sL q, st q, sf q, sP q, so q) → (∀ y, y ≠ 160 → z.1 y = g.1 y) → z.2 = g.2 → IM (uI z 160 12 (cI k + 1)) (sn q, sp q, sb q, some k, fd k (sd q), ss q, sL q, st q, sf q, sP q, so q) ∧ KM g (uI z 160 12 (cI k + 1)) := by
            intro z z1 z2 z3
            obtain ⟨b1, b2, b3, b4, b5, b6, b7, b8⟩ := z1
            have hn := hw.1
            refine ⟨IM_set (q := q) hg ⟨by rw [uI_k _ _ _ (by decide)]; exact b1, by rw [uI_k _ _ _ (by decide)]; exact b2, fun i hi => ?_, fun i hi => ?_, ?_, by rw [uI_k _ _ _ (by decide)]; exact b6, fun i hi => by rw [uI_k _ _ _ (by omega)]; exact b7 i hi, by rw [uI_k _ _ _ (by decide)]; exact b8⟩ rfl rfl rfl rfl (fun y hy => by rw [uI_o _ _ _ hy]; exact z2 y hy), fun y hy => ⟨by rw [uI_o _ _ _ (by omega)]; exact z2 y (by omega), by show z.2 y = _; rw [z3]⟩⟩
            · have hi' : i < sn q := hi
              rw [uI_k _ _ _ (by omega)]; exact b3 i hi
            · have hi' : i < sn q := hi
              rw [uI_k _ _ _ (by omega)]; exact b4 i hi
            · rw [uI_s, c_succ]; rfl
          unfold f_Mo_look
          refine ok_binde (mo_arr hw hg.2.1) ?_
          rw [if_neg h0, mo_dir, if_pos c]
          refine ok_neg (by decide) (ok_neg (by decide) (ok_binde (look_now hg.2.1) (ok_neg he (ok_bindm (mo_deafAt hw hg.2.1 hx) (fun r hr => ?_)))))
          rcases hr with ⟨r1, r2⟩ | ⟨r1, i0, i01, i02, _⟩
          · refine ok_pos r1 (ok_bd (ok_some ?_))
            have := fin g (by rw [fd_id r2]; exact hg.2.1) (fun _ _ => rfl) rfl
            exact ⟨rfl, this.1, this.2⟩
          · refine ok_neg r1 (ok_bindm (mo_deafAt hw hg.2.1 hx) (fun r hr => ?_))
            rcases hr with ⟨_, r2⟩ | ⟨_, i, i1, i2, i3⟩
            · exact absurd (mem_getD.mpr ⟨i0, i01, i02⟩) r2
            · subst i3
              refine ok_bindm (mo_takesOut hw hg.2.1 i1) (fun z hz => ok_bd (ok_some ?_))
              rw [← fd_erase _ i hw.2.2.2.2.2.2.2.1 i1 i2] at hz
              obtain ⟨z1, z2, z3⟩ := hz
              have := fin z z1 z2 z3
              exact ⟨rfl, this.1, this.2⟩
  · refine ⟨-2, q, hw, fun g hg => ?_, fun g hg => ?_⟩
    · unfold f_Da_look
      rw [da_dir, if_neg c]
      exact ok_pos rfl (ok_some ⟨rfl, hg, KC_rf g⟩)
    · unfold f_Mo_look
      refine ok_binde (mo_arr hw hg.2.1) (ok_if (fun _ => ok_some ⟨rfl, hg, KM_rf g⟩) (fun _ => ?_))
      rw [mo_dir, if_neg c]
      exact ok_pos rfl (ok_some ⟨rfl, hg, KM_rf g⟩)
def wb (lk : Option Nat) (ds : List Nat) : Nat := match lk with
  | none => db ds
  | some l => db ds ||| 2 ^ l
theorem pl_wishBits {g : M2} {p n : Nat} {pos : Nat → Nat} {br : Nat} {lk : Option Nat} {ds : List Nat} (h : PL g p n pos br lk ds) : f_Pl_wishBits p g = some (cI (wb lk ds)) := by
  have h2 := h
  obtain ⟨_, _, _, _, _, p6, p7, _⟩ := h2
  unfold f_Pl_wishBits
  rw [p6, pl_deafBits h]
  cases lk with
  | none => rw [if_pos (show lkI none = -1 from rfl)]; rfl
  | some l =>
    have hl := p7 l rfl
    have key : ∀ k : Nat, k < 12 → ¬ (cI k = (-1 : Int32)) := by decide +kernel
    have e1 : lkI (some l) = cI l := rfl
    rw [e1, if_neg (key l hl)]
    show some (cI (db ds) ||| _) = _
    rw [sh12 l hl, cI_or]
    rfl
theorem wb_bit (lk : Option Nat) (ds : List Nat) (k : Nat) : (wb lk ds).testBit k = decide (k ∈ ds ∨ lk = some k) := by
  unfold wb
  cases lk with
  | none => simp [db_bit]
  | some l =>
    show (db ds ||| 2 ^ l).testBit k = _
    rw [Nat.testBit_or, db_bit, Nat.testBit_two_pow]
    by_cases h1 : k ∈ ds <;> by_cases h2 : l = k <;> simp [h1, h2]
theorem wb_lt {lk : Option Nat} {ds : List Nat} (h1 : ∀ d ∈ ds, d < 12) (h2 : ∀ k, lk = some k → k < 12) : wb lk ds < 4096 := by
  unfold wb
  cases lk with
  | none => exact db_lt h1
  | some l => exact Nat.or_lt_two_pow (n := 12) (db_lt h1) (Nat.pow_lt_pow_right (by decide) (h2 l rfl))
theorem pr_deaf {q : Sg} (hw : WF q) (x : Int32) : Pr (f_Da_deaf x) (f_Mo_deaf x) q := by
  by_cases c : inb x 12
  · by_cases h0 : sL q = 0
    · refine ⟨-2, q, hw, fun g hg => ?_, fun g hg => ?_⟩
      · unfold f_Da_deaf
        rw [da_dir, if_pos c, da_none hw hg, if_pos h0]
        exact ok_neg (by decide) (ok_neg (by decide) (ok_some ⟨rfl, hg, KC_rf g⟩))
      · unfold f_Mo_deaf
        refine ok_binde (mo_arr hw hg.2.1) ?_
        rw [if_pos h0]
        exact ok_pos rfl (ok_some ⟨rfl, hg, KM_rf g⟩)
    · have hx := c.2
      have hxe := inb_to c
      generalize x.toNatClampNeg = k at hx hxe
      subst hxe
      have hd := hw.2.2.2.2.2.1
      have hle := lkI_eq (lk := sl q) (fun j hj => (hw.2.2.2.2.1 j hj).1) hx
      have hdb := wb_lt (lk := sl q) hw.2.2.2.2.2.2.1 (fun j hj => (hw.2.2.2.2.1 j hj).1)
      by_cases hs : (k ∈ sd q ∨ sl q = some k) ∨ (sd q).length = 4
      · refine ⟨-5, q, hw, fun g hg => ?_, fun g hg => ?_⟩
        · unfold f_Da_deaf
          rw [da_dir, if_pos c, da_none hw hg, if_neg h0]
          refine ok_neg (by decide) (ok_pos rfl (ok_binde (pl_wishBits hg.1) ?_))
          rw [tb12 hdb hx, wb_bit, hg.1.2.2.2.2.2.2.2.1]
          by_cases hm : k ∈ sd q ∨ sl q = some k
          · rw [if_pos (decide_eq_true hm)]
            exact ok_neg (by decide) (ok_some ⟨rfl, hg, KC_rf g⟩)
          · rw [if_neg (show ¬ decide (k ∈ sd q ∨ sl q = some k) = true from fun e => hm (of_decide_eq_true e))]
            refine ok_pos rfl (ok_pos ?_ (ok_some ⟨rfl, hg, KC_rf g⟩))
            rw [hs.resolve_left hm]; rfl
        · unfold f_Mo_deaf
          refine ok_binde (mo_arr hw hg.2.1) ?_
          rw [if_neg h0, mo_dir, if_pos c]
          refine ok_neg (by decide) (ok_neg (by decide) (ok_bindm (mo_deafAt hw hg.2.1 hx) (fun r hr => ?_)))
          rcases hr with ⟨r1, r2⟩ | ⟨r1, i, i1, i2, _⟩
          · refine ok_pos r1 (ok_binde (look_now hg.2.1) ?_)
            by_cases hl : sl q = some k
            · exact ok_pos (hle.mpr hl).symm (ok_some ⟨rfl, hg, KM_rf g⟩)
            · refine ok_neg (fun e => hl (hle.mp e.symm)) (ok_pos ?_ (ok_some ⟨rfl, hg, KM_rf g⟩))
              rw [hg.2.1.2.2.2.2.2.1, hs.resolve_left (fun e => e.elim r2 hl)]; rfl
          · exact ok_neg r1 (ok_some ⟨rfl, hg, KM_rf g⟩)
      · have hm : k ∉ sd q := fun e => hs (Or.inl (Or.inl e))
        have hl : ¬ sl q = some k := fun e => hs (Or.inl (Or.inr e))
        have h4 : (sd q).length < 4 := by
          have : ¬ (sd q).length = 4 := fun e => hs (Or.inr e)
          omega
        have hlen : (sd q ++ [k]).length = (sd q).length + 1 := by simp
        have hget : ∀ i, i < (sd q).length → (sd q ++ [k]).getD i 0 = (sd q).getD i 0 := fun i hi => by
          rw [List.getD_eq_getElem?_getD, List.getElem?_append_left hi, ← List.getD_eq_getElem?_getD]
        have hlast : (sd q ++ [k]).getD (sd q).length 0 = k := by
          rw [List.getD_eq_getElem?_getD, List.getElem?_append_right (Nat.le_refl _), Nat.sub_self]; rfl
        refine ⟨cI ((sd q).length + 1), (sn q, sp q, sb q, sl q, sd q ++ [k], ss q, sL q, st q, sf q, sP q, so q), ?_, fun g hg => ?_, fun g hg => ?_⟩
        · obtain ⟨w1, w2, w3, w4, w5, w6, w7, w8, w9, w10, w11, w12, w13⟩ := hw
          refine ⟨w1, w2, w3, w4, fun j hj => ⟨(w5 j hj).1, fun e => ?_⟩, ?_, fun j hj => ?_, ?_, w9, w10, w11, fun e => absurd e h0, w13⟩
          · rcases List.mem_append.mp e with e | e
            · exact (w5 j hj).2 e
            · rw [List.mem_singleton] at e
              exact hl (by rw [← e]; exact hj)
          · show (sd q ++ [k]).length ≤ 4
            omega
          · rcases List.mem_append.mp hj with e | e
            · exact w7 j e
            · rw [List.mem_singleton] at e; rw [e]; exact hx
          · show (sd q ++ [k]).Nodup
            rw [List.nodup_append]
            refine ⟨w8, by simp, fun a ha b hb => ?_⟩
            rw [List.mem_singleton] at hb
            exact fun e => hm (by rw [← hb, ← e]; exact ha)
        · unfold f_Da_deaf
          rw [da_dir, if_pos c, da_none hw hg, if_neg h0]
          refine ok_neg (by decide) (ok_pos rfl (ok_binde (pl_wishBits hg.1) ?_))
          obtain ⟨p1, p2, p3, p4, p5, p6, p7, p8, p9, p10⟩ := hg.1
          rw [tb12 hdb hx, wb_bit, p8, if_neg (show ¬ decide (k ∈ sd q ∨ sl q = some k) = true from fun e => hs (Or.inl (of_decide_eq_true e)))]
          refine ok_pos rfl (ok_neg (ne_no (b := 4) (by omega) (by omega) (by decide)) ?_)
          refine ok_bindm (Q := fun r => r = uI (uI g (7 + 2) (sd q).length (cI k)) 7 5 (cI ((sd q).length + 1))) ?_ (fun r hr => ok_bd ?_)
          · unfold f_Pl_addDeaf
            rw [p8]
            refine ok_neg (le_no (a := 4) h4 (by decide)) (ok_pos (inb_cI h4 (by decide)) (ok_bd (ok_bd (ok_some ?_))))
            rw [cI_nat (by omega), uI_o _ _ _ (show 7 ≠ 7 + 2 by decide), p8, c_succ]
          subst hr
          have k1 : ∀ y, y ≠ 0 → y ≠ 7 → y ≠ 9 → (uI (uI (uI g (7 + 2) (sd q).length (cI k)) 7 5 (cI ((sd q).length + 1))) 0 9 1).1 y = g.1 y := fun y y0 y1 y2 => by rw [uI_o _ _ _ y0, uI_o _ _ _ y1, uI_o _ _ _ y2]
          have k7 : ∀ j, j ≠ 5 → (uI (uI (uI g (7 + 2) (sd q).length (cI k)) 7 5 (cI ((sd q).length + 1))) 0 9 1).1 7 j = g.1 7 j := fun j hj => by rw [uI_o _ _ _ (by decide), uI_k _ _ _ hj, uI_o _ _ _ (by decide)]
          have k5 : (uI (uI (uI g (7 + 2) (sd q).length (cI k)) 7 5 (cI ((sd q).length + 1))) 0 9 1).1 7 5 = cI ((sd q).length + 1) := by rw [uI_o _ _ _ (by decide), uI_s]
          refine ok_some ⟨k5, IC_set (q := q) hg ⟨(k7 2 (by decide)).trans p1, p2, fun e he => by rw [k1 _ (by decide) (by decide) (by decide)]; exact p3 e he, (k7 3 (by decide)).trans p4, p5, (k7 4 (by decide)).trans p6, p7, ?_, ?_, fun i hi => ?_⟩ (k7 6 (by decide)) (k7 7 (by decide)) rfl rfl rfl rfl rfl rfl (fun y hy => k1 y (by omega) (by omega) (by omega)) (uI_s _ _ _ _), fun y hy => ⟨k1 y (by omega) (by omega) (by omega), rfl⟩⟩
          · rw [k5]
            show _ = cI (sd q ++ [k]).length
            rw [hlen]
          · show (sd q ++ [k]).length ≤ 4
            omega
          · have hi' : i < (sd q ++ [k]).length := hi
            show _ = cI ((sd q ++ [k]).getD i 0) ∧ (sd q ++ [k]).getD i 0 < 12
            rw [uI_o _ _ _ (by decide), uI_o _ _ _ (by decide)]
            by_cases hil : i = (sd q).length
            · rw [hil, uI_s, hlast]; exact ⟨rfl, hx⟩
            · rw [uI_k _ _ _ hil, hget i (by omega)]; exact p10 i (by omega)
        · unfold f_Mo_deaf
          refine ok_binde (mo_arr hw hg.2.1) ?_
          obtain ⟨b1, b2, b3, b4, b5, b6, b7, b8⟩ := hg.2.1
          have hn := hw.1
          rw [if_neg h0, mo_dir, if_pos c]
          refine ok_neg (by decide) (ok_neg (by decide) (ok_bindm (mo_deafAt hw hg.2.1 hx) (fun r hr => ?_)))
          rcases hr with ⟨r1, r2⟩ | ⟨r1, i, i1, i2, _⟩
          · refine ok_pos r1 (ok_binde (look_now hg.2.1) (ok_neg (fun e => hl (hle.mp e.symm)) ?_))
            rw [b6]
            refine ok_neg (ne_no (b := 4) (by omega) (by omega) (by decide)) ?_
            rw [show (14 : Int32) = cI 14 from rfl, cI_add]
            refine ok_pos (inb_cI (by omega) (by decide)) (ok_bd (ok_bd (ok_some ?_)))
            rw [cI_nat (by omega), uI_k _ _ _ (show 13 ≠ 14 + (sd q).length by omega), b6, c_succ]
            refine ⟨by show (uI (uI g 160 (14 + (sd q).length) (cI k)) 160 13 (cI ((sd q).length + 1))).1 160 13 = _; exact uI_s _ _ _ _, IM_set (q := q) hg ⟨?_, ?_, fun i hi => ?_, fun i hi => ?_, ?_, ?_, fun i hi => ?_, ?_⟩ rfl rfl rfl rfl (fun y hy => by rw [uI_o _ _ _ hy, uI_o _ _ _ hy]), fun y hy => ⟨by rw [uI_o _ _ _ (by omega), uI_o _ _ _ (by omega)], rfl⟩⟩
            · rw [uI_k _ _ _ (by omega), uI_k _ _ _ (by omega)]; exact b1
            · rw [uI_k _ _ _ (by omega), uI_k _ _ _ (by omega)]; exact b2
            · have hi' : i < sn q := hi
              rw [uI_k _ _ _ (by omega), uI_k _ _ _ (by omega)]; exact b3 i hi
            · have hi' : i < sn q := hi
              rw [uI_k _ _ _ (by omega), uI_k _ _ _ (by omega)]; exact b4 i hi
            · rw [uI_k _ _ _ (by omega), uI_k _ _ _ (by omega)]; exact b5
            · rw [uI_s]
              show _ = cI (sd q ++ [k]).length
              rw [hlen]
            · have hi' : i < (sd q ++ [k]).length := hi
              rw [uI_k _ _ _ (by omega)]
              show _ = cI ((sd q ++ [k]).getD i 0)
              by_cases hil : i = (sd q).length
              · rw [hil, uI_s, hlast]
              · rw [uI_k _ _ _ (by omega), hget i (by omega)]; exact b7 i (by omega)
            · rw [uI_k _ _ _ (by omega), uI_k _ _ _ (by omega)]; exact b8
          · exact absurd (mem_getD.mpr ⟨i, i1, i2⟩) hm
  · refine ⟨-2, q, hw, fun g hg => ?_, fun g hg => ?_⟩
    · unfold f_Da_deaf
      rw [da_dir, if_neg c]
      exact ok_pos rfl (ok_some ⟨rfl, hg, KC_rf g⟩)
    · unfold f_Mo_deaf
      refine ok_binde (mo_arr hw hg.2.1) (ok_if (fun _ => ok_some ⟨rfl, hg, KM_rf g⟩) (fun _ => ?_))
      rw [mo_dir, if_neg c]
      exact ok_pos rfl (ok_some ⟨rfl, hg, KM_rf g⟩)
