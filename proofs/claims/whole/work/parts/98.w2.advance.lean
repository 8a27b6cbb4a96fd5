/-! the reference's tokens -/
def TM (g : M2) (T : List Nat) : Prop := g.1 157 23 = cI T.length ∧ ∀ i, i < T.length → g.1 167 i = (cI (T.getD i 0)).toInt8.toInt32
def TkM (g : M2) (t : Nat × Nat × Nat × Nat) : Prop := g.1 157 25 = cI t.1 ∧ g.1 157 24 = cI t.2.1 ∧ g.1 157 26 = cI t.2.2.1 ∧ (t.2.2.1 = 2 → g.1 157 27 = cI (min 99999 t.2.2.2))
def FMd (g r : M2) : Prop := (∀ y, y ≠ 157 → r.1 y = g.1 y) ∧ (∀ j, j ≠ 24 → j ≠ 25 → j ≠ 26 → j ≠ 27 → r.1 157 j = g.1 157 j) ∧ r.2 = g.2
theorem FMd_tr {g r z : M2} (h : FMd g r) (k : FMd r z) : FMd g z := ⟨fun y hy => (k.1 y hy).trans (h.1 y hy), fun j a b c e => (k.2.1 j a b c e).trans (h.2.1 j a b c e), k.2.2.trans h.2.2⟩
theorem FMd_rf (g : M2) : FMd g g := ⟨fun _ _ => rfl, fun _ _ _ _ _ => rfl, rfl⟩
theorem FMd_u (g : M2) {j : Nat} (h : j = 24 ∨ j = 25 ∨ j = 26 ∨ j = 27) (x : Int32) : FMd g (uI g 157 j x) := ⟨fun y hy => uI_o _ _ _ hy, fun i a b c e => uI_k _ _ _ (by omega), rfl⟩
theorem FMd_T {g r : M2} {T : List Nat} (h : TM g T) (k : FMd g r) : TM r T := ⟨by rw [k.2.1 23 (by decide) (by decide) (by decide) (by decide)]; exact h.1, fun i hi => by rw [k.1 167 (by decide)]; exact h.2 i hi⟩
theorem by255 : ∀ c : Nat, c < 256 → (cI c).toInt8.toInt32 &&& 255 = cI c := by decide +kernel
theorem mo_see {g : M2} {T : List Nat} (hT : TM g T) (h3 : T.length ≤ 300) (hb : ∀ x ∈ T, x < 256) {a : Nat} (hl : a < T.length) : f_Mo_see (cI a) g = some (cI (T.getD a 0)) := by
  unfold f_Mo_see
  rw [hT.1, if_neg (le_no hl (by omega)), if_pos (inb_cI (by omega) (by decide)), cI_nat (by omega), hT.2 a hl, by255 _ (byt hb hl)]
theorem mo_see0 {g : M2} {T : List Nat} (hT : TM g T) {a : Nat} (h3 : a ≤ 300) (hl : T.length ≤ a) : f_Mo_see (cI a) g = some (-1) := by
  unfold f_Mo_see
  rw [hT.1, if_pos (le_yes hl (by omega))]
theorem mo_dgt {c : Nat} (h : c < 256) (g : M2) : f_Mo_in (cI c).toInt64 (48 : Int64) (57 : Int64) g = if dgt c = true then 1 else 0 := by
  have := mo_inI (x := cI c) (a := 48) (b := 57) (by decide) (by decide) (by decide) (by decide) g
  rw [cI_toInt (by omega)] at this
  refine Eq.trans this ?_
  unfold dgt
  by_cases hd : 48 ≤ c ∧ c ≤ 57
  · rw [if_pos (by omega), decide_eq_true hd, if_pos rfl]
  · rw [if_neg (by omega), decide_eq_false hd, if_neg (by decide)]
theorem mo_ltr {c : Nat} (h : c < 256) (g : M2) : f_Mo_in (cI c).toInt64 (97 : Int64) (122 : Int64) g = if ltr c = true then 1 else 0 := by
  have := mo_inI (x := cI c) (a := 97) (b := 122) (by decide) (by decide) (by decide) (by decide) g
  rw [cI_toInt (by omega)] at this
  refine Eq.trans this ?_
  unfold ltr
  by_cases hd : 97 ≤ c ∧ c ≤ 122
  · rw [if_pos (by omega), decide_eq_true hd, if_pos rfl]
  · rw [if_neg (by omega), decide_eq_false hd, if_neg (by decide)]
theorem mo_adv {g : M2} {T : List Nat} {a : Nat} (hT : TM g T) (h3 : T.length ≤ 300) (hb : ∀ x ∈ T, x < 256) (ha : a ≤ T.length) (e3 : g.1 157 24 = cI a) : Ok (f_Mo_advance g) (fun r => TkM r (tk T a) ∧ FMd g r) := by
  unfold f_Mo_advance
  refine ok_bindm (lp_nx wsp T (fun s => b_Mo_advance_0 s) (fun b z => b ≤ 300 ∧ z.1 157 24 = cI b ∧ FMd g z) ?_ ?_ ?_ 300 5000 a g ⟨by omega, e3, FMd_rf g⟩ (by omega) (by decide)) (fun z hz => ?_)
  · rintro b z ⟨hb3, z1, z2⟩ hl
    show b_Mo_advance_0 z = _
    unfold b_Mo_advance_0
    rw [z1, mo_see0 (FMd_T hT z2) hb3 hl]
    rfl
  · rintro b z ⟨hb3, z1, z2⟩ hl hp
    show b_Mo_advance_0 z = _
    unfold b_Mo_advance_0
    have hc := byt hb hl
    unfold wsp at hp
    rw [decide_eq_true_eq] at hp
    rw [z1, mo_see (FMd_T hT z2) h3 hb hl]
    show (if cI (T.getD b 0) = (32 : Int32) then _ else (if cI (T.getD b 0) = (10 : Int32) then _ else _)) = _
    rw [if_neg (show ¬ cI (T.getD b 0) = (32 : Int32) from ne_no (b := 32) (fun e => hp (Or.inl e)) (by omega) (by decide)), if_neg (show ¬ cI (T.getD b 0) = (10 : Int32) from ne_no (b := 10) (fun e => hp (Or.inr e)) (by omega) (by decide))]
  · rintro b z ⟨hb3, z1, z2⟩ hl hp
    have hc := byt hb hl
    unfold wsp at hp
    rw [decide_eq_true_eq] at hp
    refine ⟨uI z 157 24 (cI (b + 1)), ?_, by omega, uI_s _ _ _ _, FMd_tr z2 (FMd_u z (by omega) _)⟩
    show b_Mo_advance_0 z = _
    unfold b_Mo_advance_0
    rw [z1, mo_see (FMd_T hT z2) h3 hb hl, c_succ]
    rcases hp with hp | hp
    · rw [hp]; rfl
    · rw [hp]; rfl
  · obtain ⟨s3, z1, z2⟩ := hz
    have hTz := FMd_T hT z2
    have hsle := (nx_le wsp T 300 a).2 ha
    unfold tk
    generalize nx wsp T 300 a = s at *
    refine ok_bd ?_
    rw [z1]
    have f0 : FMd g (uI z 157 25 (cI s)) := FMd_tr z2 (FMd_u z (by omega) _)
    generalize hw0 : uI z 157 25 (cI s) = w at *
    have w3 : w.1 157 24 = cI s := by rw [← hw0, uI_k _ _ _ (by decide)]; exact z1
    have w4 : w.1 157 25 = cI s := by rw [← hw0, uI_s]
    have hTw := FMd_T hT f0
    rw [w3]
    by_cases hl : T.length ≤ s
    · refine ok_binde (mo_see0 hTw s3 hl) (ok_pos rfl (ok_bd (ok_some ?_)))
      rw [if_pos hl]
      exact ⟨⟨by rw [uI_k _ _ _ (by decide)]; exact w4, by rw [uI_k _ _ _ (by decide)]; exact w3, uI_s _ _ _ _, fun e => by cases e⟩, FMd_tr f0 (FMd_u w (by omega) _)⟩
    · have hl' : s < T.length := by omega
      have hc := byt hb hl'
      rw [if_neg hl]
      have nm1 : ∀ c : Nat, c < 256 → ¬ cI c = (-1 : Int32) := by decide +kernel
      refine ok_binde (mo_see hTw h3 hb hl') (ok_neg (nm1 _ hc) (ok_grd (mo_ltr hc w) (fun c1 => ?_) (fun c1 => ?_)))
      · rw [if_neg c1]
        refine ok_grd (mo_dgt hc w) (fun c2 => ?_) (fun c2 => ?_)
        · rw [if_neg c2]
          refine ok_if (fun c3 => ?_) (fun c3 => ?_)
          · have c4 : T.getD s 0 = 59 := (cI_inj (b := 59) (by omega) (by decide)).mp c3
            rw [if_pos c4]
            refine ok_bd (ok_bd (ok_some ?_))
            rw [uI_k _ _ _ (show 24 ≠ 26 by decide), w3, c_succ]
            exact ⟨⟨by rw [uI_k _ _ _ (by decide), uI_k _ _ _ (by decide)]; exact w4, uI_s _ _ _ _, by rw [uI_k _ _ _ (by decide), uI_s]; rfl, fun e => by cases e⟩, FMd_tr f0 (FMd_tr (FMd_u w (by omega) _) (FMd_u _ (by omega) _))⟩
          · have c4 : ¬ T.getD s 0 = 59 := fun e => c3 (by rw [e]; rfl)
            rw [if_neg c4]
            refine ok_bd (ok_bd (ok_some ?_))
            rw [uI_k _ _ _ (show 24 ≠ 26 by decide), w3, c_succ]
            exact ⟨⟨by rw [uI_k _ _ _ (by decide), uI_k _ _ _ (by decide)]; exact w4, uI_s _ _ _ _, by rw [uI_k _ _ _ (by decide), uI_s]; rfl, fun e => by cases e⟩, FMd_tr f0 (FMd_tr (FMd_u w (by omega) _) (FMd_u _ (by omega) _))⟩
        · rw [if_pos c2]
          have f1 : FMd g (uI w 157 27 0) := FMd_tr f0 (FMd_u w (by omega) _)
          refine ok_bd (ok_bindm (lp_nx dgt T (fun s => b_Mo_advance_70 s) (fun b z => s ≤ b ∧ b ≤ 300 ∧ z.1 157 24 = cI b ∧ z.1 157 25 = cI s ∧ z.1 157 27 = cI (min 99999 (vs T s (b - s))) ∧ FMd g z) ?_ ?_ ?_ 300 5000 s (uI w 157 27 0) ⟨Nat.le_refl _, by omega, by rw [uI_k _ _ _ (by decide)]; exact w3, by rw [uI_k _ _ _ (by decide)]; exact w4, by rw [uI_s, Nat.sub_self]; rfl, f1⟩ (by omega) (by decide)) (fun v hv => ok_bd (ok_some ?_)))
          · rintro b v ⟨v1, v2, v3, v4, v6, v7⟩ hl2
            show b_Mo_advance_70 v = _
            unfold b_Mo_advance_70
            rw [v3, mo_see0 (FMd_T hT v7) v2 hl2]
            rfl
          · rintro b v ⟨v1, v2, v3, v4, v6, v7⟩ hl2 hp
            show b_Mo_advance_70 v = _
            unfold b_Mo_advance_70
            rw [v3, mo_see (FMd_T hT v7) h3 hb hl2]
            show (if f_Mo_in (cI (T.getD b 0)).toInt64 (48 : Int64) (57 : Int64) v = 0 then _ else _) = _
            rw [mo_dgt (byt hb hl2), if_neg hp, if_pos rfl]
          · rintro b v ⟨v1, v2, v3, v4, v6, v7⟩ hl2 hp
            have hd2 := hp
            unfold dgt at hd2
            rw [decide_eq_true_eq] at hd2
            refine ⟨uI (uI v 157 27 (cI (min 99999 (vs T s (b + 1 - s))))) 157 24 (cI (b + 1)), ?_, by omega, by omega, uI_s _ _ _ _, by rw [uI_k _ _ _ (by decide), uI_k _ _ _ (by decide)]; exact v4, by rw [uI_k _ _ _ (by decide), uI_s], FMd_tr v7 (FMd_tr (FMd_u v (by omega) _) (FMd_u _ (by omega) _))⟩
            show b_Mo_advance_70 v = _
            unfold b_Mo_advance_70
            have ev : vs T s (b + 1 - s) = 10 * vs T s (b - s) + (T.getD b 0 - 48) := by
              rw [show b + 1 - s = (b - s) + 1 by omega]
              show 10 * vs T s (b - s) + (T.getD (s + (b - s)) 0 - 48) = _
              rw [show s + (b - s) = b by omega]
            rw [v3, mo_see (FMd_T hT v7) h3 hb hl2]
            show (if f_Mo_in (cI (T.getD b 0)).toInt64 (48 : Int64) (57 : Int64) v = 0 then _ else _) = _
            rw [mo_dgt (byt hb hl2), if_pos hp, if_neg (by decide)]
            show some (Sum.inl (uI (uI v 157 27 (f_Ma_min (cI 99999) ((10 : Int32) * v.1 157 27 + cI (T.getD b 0) - (48 : Int32)) v)) 157 24 ((uI v 157 27 _).1 157 24 + 1))) = _
            rw [uI_k _ _ _ (show 24 ≠ 27 by decide), v3, c_succ, v6, Int32.mul_comm, mincap (C := 99999) (by decide) hd2.1 hd2.2 (by decide), ← ev]
          · exact ⟨⟨by rw [uI_k _ _ _ (by decide)]; exact hv.2.2.2.1, by rw [uI_k _ _ _ (by decide)]; exact hv.2.2.1, uI_s _ _ _ _, fun _ => by rw [uI_k _ _ _ (by decide)]; exact hv.2.2.2.2.1⟩, FMd_tr hv.2.2.2.2.2 (FMd_u v (by omega) _)⟩
      · rw [if_pos c1]
        refine ok_bindm (lp_nx ltr T (fun s => b_Mo_advance_41 s) (fun b z => b ≤ 300 ∧ z.1 157 24 = cI b ∧ z.1 157 25 = cI s ∧ FMd g z) ?_ ?_ ?_ 300 5000 s w ⟨by omega, w3, w4, f0⟩ (by omega) (by decide)) (fun v hv => ok_bd (ok_some ⟨⟨by rw [uI_k _ _ _ (by decide)]; exact hv.2.2.1, by rw [uI_k _ _ _ (by decide)]; exact hv.2.1, uI_s _ _ _ _, fun e => by cases e⟩, FMd_tr hv.2.2.2 (FMd_u v (by omega) _)⟩))
        · rintro b v ⟨v2, v3, v4, v7⟩ hl2
          show b_Mo_advance_41 v = _
          unfold b_Mo_advance_41
          rw [v3, mo_see0 (FMd_T hT v7) v2 hl2]
          rfl
        · rintro b v ⟨v2, v3, v4, v7⟩ hl2 hp
          show b_Mo_advance_41 v = _
          unfold b_Mo_advance_41
          rw [v3, mo_see (FMd_T hT v7) h3 hb hl2]
          show (if f_Mo_in (cI (T.getD b 0)).toInt64 (97 : Int64) (122 : Int64) v = 0 then _ else _) = _
          rw [mo_ltr (byt hb hl2), if_neg hp, if_pos rfl]
        · rintro b v ⟨v2, v3, v4, v7⟩ hl2 hp
          refine ⟨uI v 157 24 (cI (b + 1)), ?_, by omega, uI_s _ _ _ _, by rw [uI_k _ _ _ (by decide)]; exact v4, FMd_tr v7 (FMd_u v (by omega) _)⟩
          show b_Mo_advance_41 v = _
          unfold b_Mo_advance_41
          rw [v3, mo_see (FMd_T hT v7) h3 hb hl2]
          show (if f_Mo_in (cI (T.getD b 0)).toInt64 (97 : Int64) (122 : Int64) v = 0 then _ else _) = _
          rw [mo_ltr (byt hb hl2), if_pos hp, if_neg (by decide), c_succ]
          rfl
