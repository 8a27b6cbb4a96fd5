/-! feeding bytes -/
def shk (k : Nat) : Int32 := (Int32.ofInt (24 - 8 * (k : Int))) &&& 31
def bt (x : Int32) (k : Nat) : Nat := ((x >>> shk k) &&& 255).toBitVec.toNat
theorem and255 (y : Int32) : (y &&& 255).toBitVec.toNat < 256 ∧ y &&& 255 = cI (y &&& 255).toBitVec.toNat ∧ y.toInt8 = (cI (y &&& 255).toBitVec.toNat).toInt8 := by
  have e : (y &&& 255).toBitVec.toNat = y.toBitVec.toNat % 256 := by
    rw [Int32.toBitVec_and, BitVec.toNat_and]
    exact Nat.and_two_pow_sub_one_eq_mod _ 8
  have h2 : y &&& 255 = cI (y &&& 255).toBitVec.toNat := by
    apply Int32.toBitVec_inj.mp
    show (y &&& 255).toBitVec = BitVec.ofNat 32 (y &&& 255).toBitVec.toNat
    rw [BitVec.ofNat_toNat, BitVec.setWidth_eq]
  refine ⟨by omega, h2, ?_⟩
  rw [← h2]
  apply Int8.toBitVec_inj.mp
  rw [Int32.toBitVec_toInt8, Int32.toBitVec_toInt8, BitVec.signExtend_eq_setWidth_of_le _ (by decide), BitVec.signExtend_eq_setWidth_of_le _ (by decide)]
  apply BitVec.eq_of_toNat_eq
  rw [BitVec.toNat_setWidth, BitVec.toNat_setWidth, e]
  omega
theorem bt_lt (x : Int32) (k : Nat) : bt x k < 256 := (and255 _).1
theorem shk_v : ∀ k : Nat, k ≤ 4 → ((Int32.ofInt (24 - 8 * (k : Int))) < 0 ↔ 4 ≤ k) ∧ (Int32.ofInt (24 - 8 * (k : Int))) + (-8 : Int32) = Int32.ofInt (24 - 8 * ((k + 1 : Nat) : Int)) := by decide +kernel
theorem shk_r : ∀ k : Nat, k < 20 → cI k / (4 : Int32) = cI (k / 4) ∧ ((24 : Int32) - ((8 : Int32) * (cI k - cI k / (4 : Int32) * (4 : Int32)))) &&& 31 = shk (k % 4) := by decide +kernel
/-- the class's tape -/
def TP (g : M2) (T : List Nat) : Prop := g.1 1 2 = cI T.length ∧ ∀ i, i < T.length → g.1 2 i = cI (T.getD i 0)
def b4 (x : Int32) : List Nat := (List.range 4).map (bt x)
theorem re_take {g : M2} {T : List Nat} (h : TP g T) (hT : T.length + 4 ≤ 300) (x : Int32) : Ok (f_Re_take x g) (fun r => TP r (T ++ b4 x) ∧ (∀ y, y ≠ 1 → y ≠ 2 → r.1 y = g.1 y) ∧ (∀ j, j ≠ 2 → r.1 1 j = g.1 1 j) ∧ r.2 = g.2) := by
  unfold f_Re_take
  refine ok_bindm (Q := fun r => TP r (T ++ b4 x) ∧ (∀ y, y ≠ 1 → y ≠ 2 → r.1 y = g.1 y) ∧ (∀ j, j ≠ 2 → r.1 1 j = g.1 1 j) ∧ r.2 = g.2) ?_ (fun r hr => ok_some hr)
  refine ok_lp (fun k s => s.1 = Int32.ofInt (24 - 8 * (k : Int)) ∧ TP s.2 (T ++ (List.range k).map (bt x)) ∧ (∀ y, y ≠ 1 → y ≠ 2 → s.2.1 y = g.1 y) ∧ (∀ j, j ≠ 2 → s.2.1 1 j = g.1 1 j) ∧ s.2.2 = g.2) 4 5000 0 _ (by omega) (by omega) ⟨rfl, by simpa using h, fun _ _ _ => rfl, fun _ _ => rfl, rfl⟩ ?_
  rintro k ⟨s1, s2⟩ hk ⟨h1, h2, h3, h4, h5⟩
  show Ok (b_Re_take_2 x s1 s2) _
  dsimp only at h1 h2 h3 h4 h5
  subst h1
  unfold b_Re_take_2
  obtain ⟨v1, v2⟩ := shk_v k hk
  have hlen : (T ++ (List.range k).map (bt x)).length = T.length + k := by simp
  by_cases hk4 : k = 4
  · subst hk4
    exact ok_pos (v1.mpr (by omega)) (ok_some ⟨h2, h3, h4, h5⟩)
  · refine ok_neg (fun e => hk4 (by have := v1.mp e; omega)) ?_
    rw [h2.1, hlen]
    refine ok_neg (le_no (a := 300) (by omega) (by decide)) (ok_pos (inb_cI (by omega) (by decide)) (ok_bd (ok_bd (ok_some ⟨by omega, v2, ?_, fun y y1 y2 => ?_, fun j hj => ?_, h5⟩))))
    · rw [cI_nat (by omega), uI_o _ _ _ (show 1 ≠ 2 by decide), h2.1, hlen]
      have hr : T ++ (List.range (k + 1)).map (bt x) = (T ++ (List.range k).map (bt x)) ++ [bt x k] := by
        rw [List.range_succ, List.map_append, List.append_assoc]; rfl
      rw [hr]
      refine ⟨?_, fun i hi => ?_⟩
      · rw [uI_s, List.length_append, hlen, c_succ]; rfl
      · rw [List.length_append, hlen] at hi
        simp only [List.length_cons, List.length_nil] at hi
        rw [uI_o _ _ _ (by decide)]
        by_cases hil : i = T.length + k
        · rw [hil, uI_s, List.getD_eq_getElem?_getD, List.getElem?_append_right (by omega), hlen, Nat.sub_self]
          exact (and255 _).2.1
        · rw [uI_k _ _ _ hil, h2.2 i (by omega), List.getD_eq_getElem?_getD, List.getD_eq_getElem?_getD, List.getElem?_append_left (l₁ := T ++ (List.range k).map (bt x)) (by omega)]
    · rw [uI_o _ _ _ y1, uI_o _ _ _ y2]; exact h3 y y1 y2
    · rw [uI_k _ _ _ hj, uI_o _ _ _ (by decide)]; exact h4 j hj
def w5 (a b c d e : Int32) (i : Nat) : Int32 := if i = 0 then a else if i = 1 then b else if i = 2 then c else if i = 3 then d else e
def l20 (a b c d e : Int32) : List Nat := (List.range 20).map (fun j => bt (w5 a b c d e (j / 4)) (j % 4))
theorem l20_eq (a b c d e : Int32) (T : List Nat) : T ++ b4 a ++ b4 b ++ b4 c ++ b4 d ++ b4 e = T ++ l20 a b c d e := by
  simp only [List.append_assoc]
  rfl
theorem fe_W {q : Sg} (hw : WF q) {l : List Nat} (hl : (st q ++ l).length ≤ 300) (h : ∀ x ∈ l, x < 256) : WF (sn q, sp q, sb q, sl q, sd q, ss q, sL q, st q ++ l, sf q, sP q, so q) := by
  obtain ⟨w1, w2, w3, w4, w5, w6, w7, w8, w9, w10, w11, w12, w13, w14, w15⟩ := hw
  refine ⟨w1, w2, w3, w4, w5, w6, w7, w8, w9, w10, w11, w12, hl, fun x hx => ?_, w15⟩
  rcases List.mem_append.mp hx with hx | hx
  · exact w14 x hx
  · exact h x hx
theorem IC_T {g r : M2} {q : Sg} {T : List Nat} (hw : WF q) (h : IC g q) (hT : TP r T) (k : ∀ y, y ≠ 1 → y ≠ 2 → r.1 y = g.1 y) (k1 : ∀ j, j ≠ 2 → r.1 1 j = g.1 1 j) (k2 : r.2 = g.2) : IC r (sn q, sp q, sb q, sl q, sd q, ss q, sL q, T, sf q, sP q, so q) := by
  obtain ⟨a1, a2, a3, a4, a5, a6, a7, a8, a9, a10⟩ := h
  refine ⟨PL_k a1 (fun y _ _ => k y (by omega) (by omega)), by rw [k _ (by decide) (by decide)]; exact a2, by rw [k _ (by decide) (by decide)]; exact a3, hT.1, hT.2, by rw [k1 _ (by decide)]; exact a6, by rw [k1 _ (by decide)]; exact a7, by rw [k _ (by decide) (by decide)]; exact a8, fun i hi => by rw [k _ (by decide) (by decide)]; exact a9 i hi, ?_⟩
  rw [k _ (by decide) (by decide)]
  rcases a10 with a10 | ⟨a10, a11⟩
  · exact Or.inl a10
  · exact Or.inr ⟨a10, Now_mono (q := q) (WF_m hw) hw.1 a11 (k 6 (by decide) (by decide)) (k 10 (by decide) (by decide)) (k 11 (by decide) (by decide)) (by rw [k2]) (fun _ _ _ => by rw [k2])⟩
theorem pr_feed {q : Sg} (hw : WF q) (a b c d e : Int32) : Pr (f_Da_feed a b c d e) (f_Mo_feed a b c d e) q := by
  have hl : (st q).length ≤ 300 := hw.2.2.2.2.2.2.2.2.2.2.2.2.1
  have e20 : cI (st q).length + (20 : Int32) = cI ((st q).length + 20) := by rw [show (20 : Int32) = cI 20 from rfl, cI_add]
  have hlen : (l20 a b c d e).length = 20 := by unfold l20; simp
  have hlen2 : (st q ++ l20 a b c d e).length = (st q).length + 20 := by rw [List.length_append, hlen]
  by_cases hc : (st q).length + 20 ≤ 300
  · refine ⟨cI ((st q).length + 20), (sn q, sp q, sb q, sl q, sd q, ss q, sL q, st q ++ l20 a b c d e, sf q, sP q, so q), fe_W hw (by omega) (fun x hx => ?_), fun g hg => ?_, fun g hg => ?_⟩
    · unfold l20 at hx
      obtain ⟨j, _, rfl⟩ := List.mem_map.mp hx
      exact bt_lt _ _
    · unfold f_Da_feed
      have hT : TP g (st q) := ⟨hg.2.2.2.1, hg.2.2.2.2.1⟩
      have hb4 : ∀ x, (b4 x).length = 4 := fun x => by unfold b4; simp
      rw [hT.1, e20]
      refine ok_pos (le_yes (b := 300) hc (by decide)) ?_
      refine ok_bindm (re_take hT (by omega) a) (fun r1 h1 => ?_)
      refine ok_bindm (re_take h1.1 (by rw [List.length_append, hb4]; omega) b) (fun r2 h2 => ?_)
      refine ok_bindm (re_take h2.1 (by rw [List.length_append, List.length_append, hb4, hb4]; omega) c) (fun r3 h3 => ?_)
      refine ok_bindm (re_take h3.1 (by rw [List.length_append, List.length_append, List.length_append, hb4, hb4, hb4]; omega) d) (fun r4 h4 => ?_)
      refine ok_bindm (re_take h4.1 (by rw [List.length_append, List.length_append, List.length_append, List.length_append, hb4, hb4, hb4, hb4]; omega) e) (fun r5 h5 => ok_some ?_)
      have hT5 := h5.1
      rw [l20_eq] at hT5
      have k : ∀ y, y ≠ 1 → y ≠ 2 → r5.1 y = g.1 y := fun y y1 y2 => by rw [h5.2.1 y y1 y2, h4.2.1 y y1 y2, h3.2.1 y y1 y2, h2.2.1 y y1 y2, h1.2.1 y y1 y2]
      have k1 : ∀ j, j ≠ 2 → r5.1 1 j = g.1 1 j := fun j hj => by rw [h5.2.2.1 j hj, h4.2.2.1 j hj, h3.2.2.1 j hj, h2.2.2.1 j hj, h1.2.2.1 j hj]
      have k2 : r5.2 = g.2 := by rw [h5.2.2.2, h4.2.2.2, h3.2.2.2, h2.2.2.2, h1.2.2.2]
      refine ⟨?_, IC_T hw hg hT5 k k1 k2, fun y hy => ⟨k y (by omega) (by omega), by rw [k2]⟩⟩
      show r5.1 1 2 = _
      rw [hT5.1, hlen2]
    · unfold f_Mo_feed
      obtain ⟨a1, a2, a3, a4, a5, a6, a7, a8⟩ := hg
      rw [a3, e20]
      refine ok_pos (le_yes (b := 300) hc (by decide)) (ok_bd (ok_bd (ok_bd (ok_bd (ok_bd ?_)))))
      generalize hg6 : uI (uI (uI (uI (uI g 168 0 a) 168 1 b) 168 2 c) 168 3 d) 168 4 e = g6
      have o : ∀ y, y ≠ 168 → g6.1 y = g.1 y := fun y hy => by rw [← hg6, uI_o _ _ _ hy, uI_o _ _ _ hy, uI_o _ _ _ hy, uI_o _ _ _ hy, uI_o _ _ _ hy]
      have o2 : g6.2 = g.2 := by rw [← hg6]; rfl
      have ow : ∀ i, i < 5 → g6.1 168 i = w5 a b c d e i := by
        intro i hi
        have : i = 0 ∨ i = 1 ∨ i = 2 ∨ i = 3 ∨ i = 4 := by omega
        rw [← hg6]
        rcases this with rfl | rfl | rfl | rfl | rfl
        · rw [uI_k _ _ _ (by decide), uI_k _ _ _ (by decide), uI_k _ _ _ (by decide), uI_k _ _ _ (by decide), uI_s]; rfl
        · rw [uI_k _ _ _ (by decide), uI_k _ _ _ (by decide), uI_k _ _ _ (by decide), uI_s]; rfl
        · rw [uI_k _ _ _ (by decide), uI_k _ _ _ (by decide), uI_s]; rfl
        · rw [uI_k _ _ _ (by decide), uI_s]; rfl
        · rw [uI_s]; rfl
      refine ok_bindm (Q := fun r => r.2 = g.2 ∧ (∀ y, y ≠ 167 → y ≠ 168 → r.1 y = g.1 y) ∧ (∀ i, i < (st q).length → r.1 167 i = (cI ((st q).getD i 0)).toInt8.toInt32) ∧ ∀ j, j < 20 → r.1 167 ((st q).length + j) = (cI (bt (w5 a b c d e (j / 4)) (j % 4))).toInt8.toInt32) ?_ (fun r hr => ok_bd (ok_some ?_))
      · refine ok_for 20 (by decide) (fun k z => z.2 = g.2 ∧ z.1 168 = g6.1 168 ∧ (∀ y, y ≠ 167 → y ≠ 168 → z.1 y = g.1 y) ∧ (∀ i, i < (st q).length → z.1 167 i = (cI ((st q).getD i 0)).toInt8.toInt32) ∧ ∀ j, j < k → z.1 167 ((st q).length + j) = (cI (bt (w5 a b c d e (j / 4)) (j % 4))).toInt8.toInt32) ⟨o2, rfl, fun y _ y2 => o y y2, fun i hi => by rw [o _ (by decide)]; exact a4 i hi, fun j hj => absurd hj (by omega)⟩ ?_ ?_
        · rintro k z hk ⟨z1, z2, z3, z4, z5⟩
          show Ok (b_Mo_feed_35 (cI k) z) _
          unfold b_Mo_feed_35
          obtain ⟨s1, s2⟩ := shk_r k hk
          rw [s2, s1, z3 157 (by decide) (by decide), a3, cI_add]
          refine ok_neg (le_no (a := 20) hk (by decide)) (ok_pos (inb_cI (by omega) (by decide)) (ok_pos (inb_cI (by omega) (by decide)) (ok_bd (ok_some ⟨c_succ k, z1, ?_, fun y y1 y2 => ?_, fun i hi => ?_, fun j hj => ?_⟩))))
          · rw [uI_o _ _ _ (by decide)]; exact z2
          · rw [uI_o _ _ _ y1]; exact z3 y y1 y2
          · rw [cI_nat (by omega), uI_k _ _ _ (by omega)]; exact z4 i hi
          · rw [cI_nat (show (st q).length + k < 2 ^ 31 by omega)]
            by_cases hjk : j = k
            · subst hjk
              rw [uI_s, cI_nat (by omega), z2, ow _ (by omega), Int8.toInt8_toInt32]
              exact congrArg Int8.toInt32 (and255 _).2.2
            · rw [uI_k _ _ _ (by omega)]; exact z5 j (by omega)
        · rintro z ⟨z1, z2, z3, z4, z5⟩
          show Ok (b_Mo_feed_35 (cI 20) z) _
          unfold b_Mo_feed_35
          exact ok_pos (le_yes (a := 20) (Nat.le_refl _) (by decide)) (ok_some ⟨z1, z3, z4, z5⟩)
      · obtain ⟨r1, r2, r3, r4⟩ := hr
        rw [r2 157 (by decide) (by decide), a3, e20]
        refine ⟨by show (uI r 157 21 (cI ((st q).length + 20))).1 157 21 = _; exact uI_s _ _ _ _, ⟨fun j hj => by rw [uI_o _ _ _ (by decide), r2 _ (by decide) (by decide)]; exact a1 j hj, WD_f a2 (by rw [uI_o _ _ _ (by decide), r2 _ (by decide) (by decide)]), ?_, fun i hi => ?_, by rw [uI_k _ _ _ (by decide), r2 _ (by decide) (by decide)]; exact a5, by rw [uI_k _ _ _ (by decide), r2 _ (by decide) (by decide)]; exact a6, by rw [uI_k _ _ _ (by decide), r2 _ (by decide) (by decide)]; exact a7, fun i hi => by rw [uI_o _ _ _ (by decide), r2 _ (by decide) (by decide)]; exact a8 i hi⟩, fun y hy => ⟨by rw [uI_o _ _ _ (by omega), r2 _ (by omega) (by omega)], by show r.2 y = _; rw [r1]⟩⟩
        · rw [uI_s]
          show _ = cI (st q ++ l20 a b c d e).length
          rw [hlen2]
        · have hi' : i < (st q ++ l20 a b c d e).length := hi
          rw [uI_o _ _ _ (by decide)]
          show _ = (cI ((st q ++ l20 a b c d e).getD i 0)).toInt8.toInt32
          by_cases hil : i < (st q).length
          · rw [List.getD_eq_getElem?_getD, List.getElem?_append_left hil, ← List.getD_eq_getElem?_getD]; exact r3 i hil
          · have hj : i - (st q).length < 20 := by omega
            have := r4 (i - (st q).length) hj
            rw [show (st q).length + (i - (st q).length) = i by omega] at this
            rw [this, List.getD_eq_getElem?_getD, List.getElem?_append_right (by omega)]
            unfold l20
            rw [List.getElem?_map, List.getElem?_range hj]
            rfl
  · refine ⟨-1, q, hw, fun g hg => ?_, fun g hg => ?_⟩
    · unfold f_Da_feed
      rw [hg.2.2.2.1, e20]
      exact ok_neg (le_no (b := 300) (by omega) (by omega)) (ok_some ⟨rfl, hg, KC_rf g⟩)
    · unfold f_Mo_feed
      rw [hg.2.2.1, e20]
      exact ok_neg (le_no (b := 300) (by omega) (by omega)) (ok_some ⟨rfl, hg, KM_rf g⟩)
