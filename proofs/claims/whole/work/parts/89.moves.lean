/-! moving an element; the end of the text -/
theorem pl_elementAt {g : M2} {p n : Nat} {pos : Nat → Nat} {br : Nat} {lk : Option Nat} {ds : List Nat} (h : PL g p n pos br lk ds) {k : Nat} (hk : k < 12) : Ok (f_Pl_elementAt p (cI k) g) (fun r => (r = -1 ∧ ∀ e, e < n → pos e ≠ k) ∨ (¬ r = -1 ∧ ∃ e, e < n ∧ pos e = k ∧ r = cI e)) := by
  obtain ⟨p1, p2, p3, _⟩ := h
  unfold f_Pl_elementAt
  refine ok_bindm (Q := fun r => Sum.elim (fun _ => ∀ e, e < n → pos e ≠ k) (fun a => ∃ e, e < n ∧ pos e = k ∧ a = cI e) r) ?_ (fun r hr => ?_)
  · refine ok_lp (fun j s => s = cI j ∧ ∀ e, e < j → pos e ≠ k) n 5000 0 _ (by omega) (by omega) ⟨rfl, fun e he => absurd he (by omega)⟩ ?_
    rintro j s hj ⟨rfl, hs⟩
    show Ok (b_Pl_elementAt_2 p (cI k) (cI j) g) _
    unfold b_Pl_elementAt_2
    rw [p1]
    by_cases hjn : j = n
    · rw [hjn] at hs ⊢
      exact ok_pos (le_yes (Nat.le_refl _) (by omega)) (ok_some hs)
    · have hj' : j < n := by omega
      refine ok_neg (le_no hj' (by omega)) (ok_pos (inb_cI (by omega) (by decide)) ?_)
      rw [cI_nat (by omega), (p3 j hj').1]
      have hp := (p3 j hj').2
      by_cases hc : pos j = k
      · exact ok_pos (by rw [hc]) (ok_some ⟨j, hj', hc, rfl⟩)
      · refine ok_neg (ne_no hc (by omega) (by omega)) (ok_some ⟨hj', c_succ j, fun e he => ?_⟩)
        by_cases hej : e = j
        · rw [hej]; exact hc
        · exact hs e (by omega)
  · cases r with
    | inl u => exact ok_some (Or.inl ⟨rfl, hr⟩)
    | inr a =>
      obtain ⟨e, e1, e2, e3⟩ := hr
      refine ok_some (Or.inr ⟨?_, e, e1, e2, e3⟩)
      have key : ∀ k : Nat, k < 12 → ¬ (cI k = (-1 : Int32)) := by decide +kernel
      rw [e3]; exact key e (by omega)
theorem mo_isTaken {g : M2} {q : Sg} (hw : WF q) (h : WD g q) {k : Nat} (hk : k < 12) : Ok (f_Mo_isTaken (cI k) g) (fun r => (r = 0 ∧ ∀ e, e < sn q → sp q e ≠ k) ∨ (r = 1 ∧ ∃ e, e < sn q ∧ sp q e = k)) := by
  have hn := hw.1
  unfold f_Mo_isTaken
  refine ok_bindm (Q := fun r => Sum.elim (fun _ => ∀ e, e < sn q → sp q e ≠ k) (fun a => a = 1 ∧ ∃ e, e < sn q ∧ sp q e = k) r) ?_ (fun r hr => ?_)
  · refine ok_lp (fun j s => s = cI j ∧ ∀ e, e < j → sp q e ≠ k) (sn q) 5000 0 _ (by omega) (by omega) ⟨rfl, fun e he => absurd he (by omega)⟩ ?_
    rintro j s hj ⟨rfl, hs⟩
    show Ok (b_Mo_isTaken_2 (cI k) (cI j) g) _
    unfold b_Mo_isTaken_2
    rw [h.2.1]
    by_cases hjn : j = sn q
    · rw [hjn] at hs ⊢
      exact ok_pos (le_yes (Nat.le_refl _) (by omega)) (ok_some hs)
    · have hj' : j < sn q := by omega
      rw [show (2 : Int32) = cI 2 from rfl, cI_add]
      refine ok_neg (le_no hj' (by omega)) (ok_pos (inb_cI (by omega) (by decide)) ?_)
      rw [cI_nat (by omega), h.2.2.1 j hj']
      have hp := hw.2.1 j hj'
      by_cases hc : sp q j = k
      · exact ok_pos (by rw [hc]) (ok_some ⟨rfl, j, hj', hc⟩)
      · refine ok_neg (ne_no hc (by omega) (by omega)) (ok_some ⟨hj', c_succ j, fun e he => ?_⟩)
        by_cases hej : e = j
        · rw [hej]; exact hc
        · exact hs e (by omega)
  · cases r with
    | inl u => exact ok_some (Or.inl ⟨rfl, hr⟩)
    | inr a => exact ok_some (Or.inr hr)
theorem pr_moves {q : Sg} (hw : WF q) (x y : Int32) : Pr (f_Da_moves x y) (f_Mo_moves x y) q := by
  have hn5 := hw.1
  by_cases c : inb x (sn q)
  · by_cases c2 : inb y 12
    · have hx := c.2
      have hxe := inb_to c
      generalize x.toNatClampNeg = e at hx hxe
      subst hxe
      have hy := c2.2
      have hye := inb_to c2
      generalize y.toNatClampNeg = k at hy hye
      subst hye
      by_cases ht : ∃ e, e < sn q ∧ sp q e = k
      · refine ⟨-5, q, hw, fun g hg => ?_, fun g hg => ?_⟩
        · unfold f_Da_moves
          rw [da_has hw hg, if_pos c, show (12 : Int32) = cI 12 from rfl, da_among (by decide), if_pos c2]
          refine ok_neg (by decide) (ok_neg (by decide) (ok_bindm (pl_elementAt hg.1 hy) (fun r hr => ?_)))
          rcases hr with ⟨r1, r2⟩ | ⟨r1, r2⟩
          · obtain ⟨e', e1, e2⟩ := ht
            exact absurd e2 (r2 e' e1)
          · exact ok_neg r1 (ok_some ⟨rfl, hg, KC_rf g⟩)
        · unfold f_Mo_moves
          refine ok_binde (mo_elem hw hg.2.1) ?_
          rw [if_pos c, show (11 : Int64) = Int64.ofInt (((12 : Nat) : Int) - 1) from rfl, mo_in0 (by decide), if_pos c2]
          refine ok_neg (by decide) (ok_neg (by decide) (ok_bindm (mo_isTaken hw hg.2.1 hy) (fun r hr => ?_)))
          rcases hr with ⟨r1, r2⟩ | ⟨r1, r2⟩
          · obtain ⟨e', e1, e2⟩ := ht
            exact absurd e2 (r2 e' e1)
          · rw [r1]; exact ok_neg (by decide) (ok_some ⟨rfl, hg, KM_rf g⟩)
      · have ht' : ∀ i, i < sn q → sp q i ≠ k := fun i hi e2 => ht ⟨i, hi, e2⟩
        refine ⟨cI (sp q e), (sn q, (fun i => if i = e then k else sp q i), sb q, sl q, sd q, ss q, sL q, st q, sf q, sP q, so q), ?_, fun g hg => ?_, fun g hg => ?_⟩
        · obtain ⟨w1, w2, w3, w4⟩ := hw
          refine ⟨w1, fun i hi => ?_, fun i j hi hj he => ?_, w4⟩
          · show (if i = e then k else sp q i) < 12
            split
            · exact hy
            · exact w2 i hi
          · have he' : (if i = e then k else sp q i) = (if j = e then k else sp q j) := he
            by_cases h1 : i = e
            · by_cases h2 : j = e
              · rw [h1, h2]
              · rw [if_pos h1, if_neg h2] at he'
                exact absurd he'.symm (ht' j hj)
            · by_cases h2 : j = e
              · rw [if_neg h1, if_pos h2] at he'
                exact absurd he' (ht' i hi)
              · rw [if_neg h1, if_neg h2] at he'
                exact w3 i j hi hj he'
        · unfold f_Da_moves
          rw [da_has hw hg, if_pos c, show (12 : Int32) = cI 12 from rfl, da_among (by decide), if_pos c2]
          refine ok_neg (by decide) (ok_neg (by decide) (ok_bindm (pl_elementAt hg.1 hy) (fun r hr => ?_)))
          rcases hr with ⟨r1, r2⟩ | ⟨r1, e', e1, e2, _⟩
          · have i5 : inb (cI e) 5 := inb_cI (by omega) (by decide)
            refine ok_pos r1 (ok_pos i5 (ok_pos i5 (ok_bd (ok_bd (ok_some ?_)))))
            rw [cI_nat (by omega)]
            obtain ⟨p1, p2, p3, p4, p5, p6, p7, p8, p9, p10⟩ := hg.1
            have kk : ∀ y, y ≠ 8 → y ≠ 0 → (uI (uI g 8 e (cI k)) 0 9 1).1 y = g.1 y := fun y y1 y2 => by rw [uI_o _ _ _ y2, uI_o _ _ _ y1]
            refine ⟨(p3 e hx).1, IC_set (q := q) hg ⟨by rw [kk _ (by decide) (by decide)]; exact p1, p2, fun i hi => ?_, by rw [kk _ (by decide) (by decide)]; exact p4, p5, by rw [kk _ (by decide) (by decide)]; exact p6, p7, by rw [kk _ (by decide) (by decide)]; exact p8, p9, fun i hi => by rw [kk _ (by decide) (by decide)]; exact p10 i hi⟩ (by rw [kk _ (by decide) (by decide)]) (by rw [kk _ (by decide) (by decide)]) rfl rfl rfl rfl rfl rfl (fun y hy => kk y (by omega) (by omega)) (uI_s _ _ _ _), fun y hy => ⟨kk y (by omega) (by omega), rfl⟩⟩
            show (uI (uI g 8 e (cI k)) 0 9 1).1 8 i = cI (if i = e then k else sp q i) ∧ (if i = e then k else sp q i) < 12
            rw [uI_o _ _ _ (by decide)]
            by_cases hie : i = e
            · rw [hie, uI_s, if_pos rfl]; exact ⟨rfl, hy⟩
            · rw [uI_k _ _ _ hie, if_neg hie]; exact p3 i hi
          · exact absurd e2 (ht' e' e1)
        · unfold f_Mo_moves
          refine ok_binde (mo_elem hw hg.2.1) ?_
          rw [if_pos c, show (11 : Int64) = Int64.ofInt (((12 : Nat) : Int) - 1) from rfl, mo_in0 (by decide), if_pos c2]
          refine ok_neg (by decide) (ok_neg (by decide) (ok_bindm (mo_isTaken hw hg.2.1 hy) (fun r hr => ?_)))
          rcases hr with ⟨r1, r2⟩ | ⟨r1, e', e1, e2⟩
          · rw [r1, show (2 : Int32) = cI 2 from rfl, cI_add]
            refine ok_pos rfl (ok_pos (inb_cI (by omega) (by decide)) (ok_pos (inb_cI (by omega) (by decide)) (ok_bd (ok_some ?_))))
            rw [cI_nat (by omega)]
            have hd := hw.2.2.2.2.2.1
            obtain ⟨b1, b2, b3, b4, b5, b6, b7, b8⟩ := hg.2.1
            refine ⟨b3 e hx, IM_set (q := q) hg ⟨by rw [uI_k _ _ _ (by omega)]; exact b1, by rw [uI_k _ _ _ (by omega)]; exact b2, fun i hi => ?_, fun i hi => by rw [uI_k _ _ _ (by omega)]; exact b4 i hi, by rw [uI_k _ _ _ (by omega)]; exact b5, by rw [uI_k _ _ _ (by omega)]; exact b6, fun i hi => by rw [uI_k _ _ _ (by omega)]; exact b7 i hi, by rw [uI_k _ _ _ (by omega)]; exact b8⟩ rfl rfl rfl rfl (fun y hy => uI_o _ _ _ hy), fun y hy => ⟨uI_o _ _ _ (by omega), rfl⟩⟩
            show (uI g 160 (2 + e) (cI k)).1 160 (2 + i) = cI (if i = e then k else sp q i)
            by_cases hie : i = e
            · rw [hie, uI_s, if_pos rfl]
            · rw [uI_k _ _ _ (by omega), if_neg hie]; exact b3 i hi
          · exact absurd e2 (ht' e' e1)
    · refine ⟨-2, q, hw, fun g hg => ?_, fun g hg => ?_⟩
      · unfold f_Da_moves
        rw [da_has hw hg, if_pos c, show (12 : Int32) = cI 12 from rfl, da_among (by decide), if_neg c2]
        exact ok_neg (by decide) (ok_pos rfl (ok_some ⟨rfl, hg, KC_rf g⟩))
      · unfold f_Mo_moves
        refine ok_binde (mo_elem hw hg.2.1) ?_
        rw [if_pos c, show (11 : Int64) = Int64.ofInt (((12 : Nat) : Int) - 1) from rfl, mo_in0 (by decide), if_neg c2]
        exact ok_neg (by decide) (ok_pos rfl (ok_some ⟨rfl, hg, KM_rf g⟩))
  · refine ⟨-2, q, hw, fun g hg => ?_, fun g hg => ?_⟩
    · unfold f_Da_moves
      rw [da_has hw hg, if_neg c]
      exact ok_pos rfl (ok_some ⟨rfl, hg, KC_rf g⟩)
    · unfold f_Mo_moves
      refine ok_binde (mo_elem hw hg.2.1) ?_
      rw [if_neg c]
      exact ok_pos rfl (ok_some ⟨rfl, hg, KM_rf g⟩)
theorem pr_end {q : Sg} (hw : WF q) (x : Int32) : Pr (f_Da_end x) (f_Mo_end x) q := by
  have hl : (st q).length ≤ 300 := hw.2.2.2.2.2.2.2.2.2.2.2.2.1
  by_cases c : inb x ((st q).length + 1)
  · have hx := c.2
    have hxe := inb_to c
    generalize x.toNatClampNeg = e at hx hxe
    subst hxe
    have hlen : ((st q).take e).length = e := by rw [List.length_take]; omega
    have hget : ∀ i, i < e → ((st q).take e).getD i 0 = (st q).getD i 0 := by
      intro i hi
      rw [List.getD_eq_getElem?_getD, List.getD_eq_getElem?_getD, List.getElem?_take, if_pos hi]
    refine ⟨cI e, (sn q, sp q, sb q, sl q, sd q, ss q, sL q, (st q).take e, sf q, sP q, so q), ?_, fun g hg => ?_, fun g hg => ?_⟩
    · obtain ⟨w1, w2, w3, w4, w5, w6, w7, w8, w9, w10, w11, w12, w13, w14, w15⟩ := hw
      refine ⟨w1, w2, w3, w4, w5, w6, w7, w8, w9, w10, w11, w12, ?_, fun y hy => w14 y (List.mem_of_mem_take hy), w15⟩
      show ((st q).take e).length ≤ 300
      omega
    · unfold f_Da_end
      rw [hg.2.2.2.1]
      refine ok_neg (nn_no (by omega)) (ok_pos (le_yes (by omega) (by omega)) (ok_bd (ok_some ⟨rfl, ?_, fun y hy => ⟨uI_o _ _ _ (by omega), rfl⟩⟩)))
      obtain ⟨a1, a2, a3, a4, a5, a6, a7, a8, a9, a10⟩ := hg
      have k : ∀ y, y ≠ 1 → (uI g 1 2 (cI e)).1 y = g.1 y := fun y hy => uI_o _ _ _ hy
      refine ⟨PL_k a1 (fun y _ _ => k y (by omega)), by rw [k _ (by decide)]; exact a2, by rw [k _ (by decide)]; exact a3, ?_, fun i hi => ?_, by rw [uI_k _ _ _ (by decide)]; exact a6, by rw [uI_k _ _ _ (by decide)]; exact a7, by rw [k _ (by decide)]; exact a8, fun i hi => by rw [k _ (by decide)]; exact a9 i hi, ?_⟩
      · rw [uI_s]
        show cI e = cI ((st q).take e).length
        rw [hlen]
      · have hi' : i < ((st q).take e).length := hi
        rw [k _ (by decide)]
        show g.1 2 i = cI (((st q).take e).getD i 0)
        rw [hget i (by omega)]; exact a5 i (by omega)
      · rw [k _ (by decide)]
        rcases a10 with a10 | ⟨a10, a11⟩
        · exact Or.inl a10
        · exact Or.inr ⟨a10, Now_mono (q := q) (WF_m hw) hw.1 a11 (k 6 (by decide)) (k 10 (by decide)) (k 11 (by decide)) rfl (fun _ _ _ => rfl)⟩
    · unfold f_Mo_end
      have hin : f_Mo_in (cI e).toInt64 (0 : Int64) (g.1 157 21).toInt64 g = 1 := by
        have h64 : (cI (st q).length).toInt64 = Int64.ofInt (((st q).length : Int)) := by
          apply Int64.toInt_inj.mp
          rw [Int32.toInt_toInt64, to64 (by omega) (by omega), cI_toInt (by omega)]
        rw [hg.2.2.1, h64, z64, mo_inI (by omega) (by omega) (by omega) (by omega), cI_toInt (by omega), if_pos (by omega)]
      rw [hin]
      refine ok_neg (by decide) (ok_bd (ok_some ⟨rfl, ?_, fun y hy => ⟨uI_o _ _ _ (by omega), rfl⟩⟩))
      obtain ⟨a1, a2, a3, a4, a5, a6, a7, a8⟩ := hg
      have k : ∀ y, y ≠ 157 → (uI g 157 21 (cI e)).1 y = g.1 y := fun y hy => uI_o _ _ _ hy
      refine ⟨fun j hj => by rw [k _ (by decide)]; exact a1 j hj, WD_f a2 (k _ (by decide)), ?_, fun i hi => ?_, by rw [uI_k _ _ _ (by decide)]; exact a5, by rw [uI_k _ _ _ (by decide)]; exact a6, by rw [uI_k _ _ _ (by decide)]; exact a7, fun i hi => by rw [k _ (by decide)]; exact a8 i hi⟩
      · rw [uI_s]
        show cI e = cI ((st q).take e).length
        rw [hlen]
      · have hi' : i < ((st q).take e).length := hi
        rw [k _ (by decide)]
        show g.1 167 i = (cI (((st q).take e).getD i 0)).toInt8.toInt32
        rw [hget i (by omega)]; exact a4 i (by omega)
  · have c' : ¬ (0 ≤ x.toInt ∧ x.toInt < ((st q).length + 1 : Nat)) := fun e => c (inb_int.mpr e)
    refine ⟨-1, q, hw, fun g hg => ?_, fun g hg => ?_⟩
    · unfold f_Da_end
      rw [hg.2.2.2.1]
      simp only [Int32.lt_iff_toInt_lt, Int32.le_iff_toInt_le, cI_toInt (show (st q).length < 2 ^ 31 by omega)]
      refine ok_if (fun _ => ok_some ⟨rfl, hg, KC_rf g⟩) (fun d => ok_neg ?_ (ok_some ⟨rfl, hg, KC_rf g⟩))
      have d' : ¬ x.toInt < 0 := d
      omega
    · unfold f_Mo_end
      have h64 : (cI (st q).length).toInt64 = Int64.ofInt (((st q).length : Int)) := by
        apply Int64.toInt_inj.mp
        rw [Int32.toInt_toInt64, to64 (by omega) (by omega), cI_toInt (by omega)]
      rw [hg.2.2.1, h64, z64, mo_inI (by omega) (by omega) (by omega) (by omega), if_neg (show ¬ (0 ≤ x.toInt ∧ x.toInt ≤ ((st q).length : Int)) by omega)]
      exact ok_pos rfl (ok_some ⟨rfl, hg, KM_rf g⟩)
