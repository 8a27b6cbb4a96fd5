/-! farthest, within, leak -/
abbrev erX (q : Sg) (k : Nat) : Int := pXz (erz q k)
abbrev erY (q : Sg) (k : Nat) : Int := pYz (erz q k)
theorem er_XB {q : Sg} (hw : WF q) : XB (erX q) (erY q) 12 := fun k _ => by
  have := erz_b hw k
  show -2 ^ 56 ≤ pXz (erz q k) ∧ pXz (erz q k) ≤ 2 ^ 56 ∧ -2 ^ 56 ≤ pYz (erz q k) ∧ pYz (erz q k) ≤ 2 ^ 56
  omega
abbrev fax (q : Sg) (n : Nat) : Option Nat := gmx (fun _ => true) (erX q) (erY q) n
/-- class states that differ in 152 and 155 -/
theorem IC_2 {g r : M2} {q : Sg} (hw : WF q) (h : IC g q) (k : F2 152 155 g r) : IC r q ∧ KC g r := ⟨IC_q hw h (fun y _ hy => k y (fun e => hy (by unfold qc; omega)) (fun e => hy (by unfold qc; omega))), fun y hy => k y (by omega) (by omega)⟩
theorem Now_2 {g r : M2} {q : Sg} (hw : WF q) (h : Now g q) (k : F2 152 155 g r) : Now r q := Now_mono (WF_m hw) hw.1 h (k 6 (by decide) (by decide)).1 (k 10 (by decide) (by decide)).1 (k 11 (by decide) (by decide)).1 (k 6 (by decide) (by decide)).2 (fun y y1 y2 => (k y (by omega) (by omega)).2)
theorem CC_2 {g r : M2} {q : Sg} {s : Nat} (hw : WF q) (h : CC g q s) (k : F2 152 155 g r) : CC r q s := fun e he => by
  have hn := hw.1
  rw [rN_f (k (140 + e) (by omega) (by omega)).2]; exact h e he
theorem pr_farthest {q : Sg} (hw : WF q) : Pr f_Da_farthest f_Mo_farthest q := by
  by_cases h : qh q = true
  · have hB := er_XB hw
    refine ⟨lkI (fax q 12), q, hw, cs_ref hw (fun g => rfl) (fun n => absurd h n) (fun _ r hC hN => ?_), fun g hg => ?_⟩
    · rw [hC.2.1]
      refine ok_bindm (da_cuts hw h hC hN hw.2.2.2.2.2.2.2.2.1) (fun z hz => ok_bindm (gr_clear z (erX q) (erY q)) (fun r4 hr4 => ?_))
      refine ok_bindm (Q := fun w => GS w (erX q) (erY q) (fax q 12) ∧ F2 152 155 z w) ?_ (fun w hw2 => ok_some ⟨hw2.1.1, (IC_2 hw hz.1 hw2.2).1, KC_tr hz.2.1 (IC_2 hw hz.1 hw2.2).2⟩)
      refine ok_for 12 (by decide) (fun j w => GS w (erX q) (erY q) (fax q j) ∧ F2 152 155 z w) ⟨hr4.1, fun y y1 _ => hr4.2 y y1⟩ ?_ ?_
      · rintro j w hj ⟨w1, w2⟩
        show Ok (b_Da_farthest_22 (cI j) w) _
        unfold b_Da_farthest_22
        refine ok_neg (le_no (a := 12) hj (by decide)) (ok_bindm (da_miss hw h (IC_2 hw hz.1 w2).1 (Now_2 hw hz.2.2.1 w2) (CC_2 hw hz.2.2.2 w2) hj) (fun u hu => ?_))
        have hG6 : GS u (erX q) (erY q) (fax q j) := ⟨by rw [hu.1]; exact w1.1, fun b hb => by rw [hu.2.1 152 (by decide)]; exact w1.2 b hb⟩
        refine ok_bindm (gr_offer (N := 12) hG6 (fun b hb => by have := gmx_lt _ _ _ j b hb; omega) (by decide) hj hB (v := erz q j) hu.2.2 rfl rfl) (fun r8 hr8 => ok_some ⟨c_succ j, ?_, fun y y1 y2 => ?_⟩)
        · rw [show fax q (j + 1) = _ from gmx_y rfl]; exact hr8.1
        · rw [(hr8.2 y y1).1, (hr8.2 y y1).2, hu.1, hu.2.1 y y2]; exact w2 y y1 y2
      · rintro w hw2
        show Ok (b_Da_farthest_22 (cI 12) w) _
        unfold b_Da_farthest_22
        exact ok_pos (le_yes (a := 12) (Nat.le_refl _) (by decide)) (ok_some hw2)
    · unfold f_Mo_farthest
      refine mo_cutsNow hw hg (fun n => absurd h n) (fun _ r z hQ hz => ?_)
      obtain ⟨D, hD, hD1, hD2⟩ := hz
      refine ok_bindm (Q := fun e => e.1 = lkI (fax q 12) ∧ FM z e.2) ?_ (fun e he => ok_some he)
      refine ok_lp (fun j st => ∃ u v w, st = (lkI (fax q j), u, v, cI j, w) ∧ (w.1 = z.1 ∧ (∀ y, y ≠ 157 → y ≠ 158 → y ≠ 159 → w.2 y = z.2 y) ∧ (∀ j, j ≠ 3 → j ≠ 4 → w.2 157 j = z.2 157 j) ∧ ∀ a, a < 80 ∨ 81 < a ∧ a < 87 → rM w a = D a) ∧ ∀ b, fax q j = some b → u = Int64.ofInt (erX q b) ∧ v = Int64.ofInt (erY q b)) 12 5000 0 _ (by omega) (by omega) ⟨0, 0, z, rfl, ⟨rfl, fun _ _ _ _ => rfl, fun _ _ _ => rfl, fun a ha => hD.2.2 a (by omega)⟩, fun b hb => absurd hb (by simp [fax, gmx])⟩ ?_
      rintro j st hj ⟨u, v, w, rfl, ⟨w1, w2, w3, w4⟩, huv⟩
      have hfw : FM z w := ⟨fun y hy => ⟨by rw [w1], w2 y (by omega) (by omega) (by omega)⟩, fun j _ => by rw [w1]⟩
      show Ok (b_Mo_farthest_13 (lkI (fax q j)) u v (cI j) w) _
      unfold b_Mo_farthest_13
      by_cases hj2 : j = 12
      · subst hj2
        exact ok_pos (le_yes (a := 12) (Nat.le_refl _) (by decide)) (ok_some ⟨rfl, hfw⟩)
      · have hj' : j < 12 := by omega
        have hIz := IM_N hQ.1 hD
        have hIw := IM_f hIz hfw
        have hMw : MN w w (rM w) := MN_rf w
        have hLw : w.2 157 16 = Int64.ofInt (qL q) := by rw [w3 16 (by decide) (by decide), hD.2.1 157 (by decide) (by decide)]; exact hQ.2.2.1.1
        refine ok_neg (le_no (a := 12) hj' (by decide)) (ok_bindm (mo_err hw hIw hMw (fun e he => by have := hw.1; rw [w4 _ (by omega)]; exact hD1 e he) (fun k hk => by rw [w4 _ (by omega), hD2 _ (by omega)]; exact hQ.2.2.1.2.2.2.2.2.2 k hk) hLw hj') (fun p hp => ?_))
        obtain ⟨p1, p2, p3, p4, p5, p6, p7⟩ := hp
        have hfr : p.1 = z.1 ∧ (∀ y, y ≠ 157 → y ≠ 158 → y ≠ 159 → p.2 y = z.2 y) ∧ (∀ j, j ≠ 3 → j ≠ 4 → p.2 157 j = z.2 157 j) ∧ ∀ a, a < 80 ∨ 81 < a ∧ a < 87 → rM p a = D a := ⟨by rw [p4, w1], fun y y1 y2 y3 => by rw [p2 y y1 y2 y3, w2 y y1 y2 y3], fun j j1 j2 => by rw [p3 j j1 j2, w3 j j1 j2], fun a ha => by rw [p5 a ha, w4 a ha]⟩
        have hlt := gmx_lt (fun _ => true) (erX q) (erY q) j
        have hg1 : fax q (j + 1) = gst (erX q) (erY q) (fax q j) j := gmx_y rfl
        cases ho : fax q j with
        | none =>
          refine ok_pos rfl (ok_some ⟨hj', p.2 157 3, p.2 157 4, p, ?_, hfr, fun b hb => ?_⟩)
          · rw [hg1, ho, c_succ]; rfl
          · rw [hg1, ho] at hb
            cases hb
            exact ⟨p6, p7⟩
        | some b =>
          have hb := hlt b ho
          obtain ⟨x1, x2, x3, x4⟩ : -2 ^ 56 ≤ pXz (erz q j) ∧ pXz (erz q j) ≤ 2 ^ 56 ∧ -2 ^ 56 ≤ pYz (erz q j) ∧ pYz (erz q j) ≤ 2 ^ 56 := hB j hj'
          obtain ⟨y1, y2, y3, y4⟩ : -2 ^ 56 ≤ erX q b ∧ erX q b ≤ 2 ^ 56 ∧ -2 ^ 56 ≤ erY q b ∧ erY q b ≤ 2 ^ 56 := hB b (by omega)
          rw [p6, p7, (huv b ho).1, (huv b ho).2, ← Int64.ofInt_sub, ← Int64.ofInt_sub]
          refine ok_neg (cI_m1 (b := b) (by omega)) (ok_binde (mo_sign (by omega) (by omega) (by omega) (by omega) p) ?_)
          simp only [s_gt (sgn_r _ _)]
          refine ok_if (fun d => ok_some ⟨hj', Int64.ofInt (erX q j), Int64.ofInt (erY q j), p, ?_, hfr, fun b2 hb2 => ?_⟩) (fun d => ok_some ⟨hj', Int64.ofInt (erX q b), Int64.ofInt (erY q b), p, ?_, hfr, fun b2 hb2 => ?_⟩)
          · rw [hg1, ho, c_succ]
            show _ = (lkI (if 0 < sgn _ _ then some j else some b), _)
            rw [if_pos d]; rfl
          · rw [hg1, ho] at hb2
            have hb3 : (if 0 < sgn _ _ then some j else some b) = some b2 := hb2
            rw [if_pos d] at hb3
            cases hb3
            exact ⟨rfl, rfl⟩
          · rw [hg1, ho, c_succ]
            show _ = (lkI (if 0 < sgn _ _ then some j else some b), _)
            rw [if_neg d]
          · rw [hg1, ho] at hb2
            have hb3 : (if 0 < sgn _ _ then some j else some b) = some b2 := hb2
            rw [if_neg d] at hb3
            cases hb3
            exact ⟨rfl, rfl⟩
  · refine ⟨-2, q, hw, cs_ref hw (fun g => rfl) (fun n => rfl) (fun h2 => absurd h2 h), fun g hg => ?_⟩
    unfold f_Mo_farthest
    exact mo_cutsNow hw hg (fun n => rfl) (fun h2 r z hQ hz => absurd h2 h)
/-! within -/
def wtv (q : Sg) (k : Nat) : Int := sgn (pXz (erz q k) - (2 * (wkn (sn q) (sb q) : Int) * qL q) * (2 * (wkn (sn q) (sb q) : Int) * qL q)) (pYz (erz q k))
theorem wkn_le (n b : Nat) : wkn n b ≤ n := by
  unfold wkn
  exact Nat.le_trans (List.length_filter_le _ _) (by rw [List.length_range]; exact Nat.le_refl _)
theorem wt_b {q : Sg} (hw : WF q) (k : Nat) : -2 ^ 57 ≤ pXz (erz q k) - (2 * (wkn (sn q) (sb q) : Int) * qL q) * (2 * (wkn (sn q) (sb q) : Int) * qL q) ∧ pXz (erz q k) - (2 * (wkn (sn q) (sb q) : Int) * qL q) * (2 * (wkn (sn q) (sb q) : Int) * qL q) ≤ 2 ^ 57 ∧ -2 ^ 57 ≤ pYz (erz q k) ∧ pYz (erz q k) ≤ 2 ^ 57 := by
  obtain ⟨l0, l1⟩ := qL_b hw
  have hn := hw.1
  have h5 := wkn_le (sn q) (sb q)
  have a := mul_b (a := 2 * (wkn (sn q) (sb q) : Int)) (b := qL q) (A := 10) (B := 9765625) (by omega) (by omega) (by omega) l1
  have a0 : 0 ≤ 2 * (wkn (sn q) (sb q) : Int) * qL q := Int.mul_nonneg (by omega) (by omega)
  have b := mul_b (a := 2 * (wkn (sn q) (sb q) : Int) * qL q) (b := 2 * (wkn (sn q) (sb q) : Int) * qL q) (A := 97656250) (B := 97656250) a0 (by omega) (by omega) (by omega)
  have c := erz_b hw k
  generalize (2 * (wkn (sn q) (sb q) : Int) * qL q) * (2 * (wkn (sn q) (sb q) : Int) * qL q) = m at *
  omega
theorem pr_within {q : Sg} (hw : WF q) (x : Int32) : Pr (f_Da_within x) (f_Mo_within x) q := by
  have hn := hw.1
  have h5 := wkn_le (sn q) (sb q)
  refine ⟨if qh q = true ∧ inb x 12 then (if 0 < wtv q x.toNatClampNeg then 0 else 1) else -2, q, hw, cs_ref hw (fun g => rfl) (fun n => if_neg (fun e => n e.1)) (fun h r hC hN => ?_), fun g hg => ?_⟩
  · refine ok_grd (da_dir r) (fun n => ok_some ⟨(if_neg (fun e => n e.2)).symm, hC, KC_rf r⟩) (fun c1 => ?_)
    rw [hC.2.1]
    refine ok_bindm (da_cuts hw h hC hN hw.2.2.2.2.2.2.2.2.1) (fun z hz => ?_)
    have hg := da_miss hw h hz.1 hz.2.2.1 hz.2.2.2 c1.2
    rw [← inb_to c1] at hg
    refine ok_bindm hg (fun w hw2 => ?_)
    have hI2 := IC_7 hw hz.1 hw2.1 (fun t ht _ => hw2.2.1 t (fun e => ht (by unfold qc; omega))) (fun t ht => hw2.2.1 t (by omega))
    have hL : w.2 6 16 = Int64.ofInt (qL q) := by rw [hw2.2.1 6 (by decide)]; exact (hz.2.2.1.2.2.2.2.2.2.2 h).1.1
    obtain ⟨b1, b2, b3, b4⟩ := wt_b hw x.toNatClampNeg
    rw [pl_working hI2.1.1.1 hn hI2.1.1.2.2.2.1 (b32 hw), pX64 hw2.2.2, pY64 hw2.2.2, hL, show (2 : Int32) = cI 2 from rfl, cI_mul, ← Int64.ofInt_int32ToInt, cI_toInt (by omega), show ((2 * wkn (sn q) (sb q) : Nat) : Int) = 2 * (wkn (sn q) (sb q) : Int) by omega, ← Int64.ofInt_mul, ← Int64.ofInt_mul, ← Int64.ofInt_sub]
    refine ok_binde (da_sign b1 b2 b3 b4 w) ?_
    simp only [s_gt (sgn_r _ _)]
    refine ok_if (fun d => ok_some ⟨?_, hI2.1, KC_tr hz.2.1 hI2.2⟩) (fun d => ok_some ⟨?_, hI2.1, KC_tr hz.2.1 hI2.2⟩)
    · rw [if_pos ⟨h, c1⟩, if_pos (show 0 < wtv q x.toNatClampNeg from d)]
    · rw [if_pos ⟨h, c1⟩, if_neg (show ¬ 0 < wtv q x.toNatClampNeg from d)]
  · unfold f_Mo_within
    refine ok_grd (mo_dir g) (fun n => ok_some ⟨(if_neg (fun e => n e.2)).symm, hg, KM_rf g⟩) (fun c1 => mo_cutsNow hw hg (fun n => if_neg (fun e => n e.1)) (fun h r z hQ hz => ?_))
    obtain ⟨D, hD, hD1, hD2⟩ := hz
    have he := mo_err hw hQ.1 hD hD1 (fun k hk => by rw [hD2 _ (by omega)]; exact hQ.2.2.1.2.2.2.2.2.2 k hk) hQ.2.2.1.1 c1.2
    rw [← inb_to c1] at he
    refine ok_bindm he (fun u hu => ?_)
    have hL : u.2 157 16 = Int64.ofInt (qL q) := by rw [hu.2.2.1 16 (by decide) (by decide), hD.2.1 157 (by decide) (by decide)]; exact hQ.2.2.1.1
    have hI := IM_f (IM_N hQ.1 hD) hu.1
    refine ok_binde (mo_whole hw hI.2.1) ?_
    obtain ⟨b1, b2, b3, b4⟩ := wt_b hw x.toNatClampNeg
    rw [hu.2.2.2.2.2.1, hu.2.2.2.2.2.2, hL, ← Int64.ofInt_int32ToInt, cI_toInt (by omega), show (2 : Int64) = Int64.ofInt 2 from rfl, ← Int64.ofInt_mul, ← Int64.ofInt_mul, ← Int64.ofInt_mul, ← Int64.ofInt_sub]
    refine ok_binde (mo_sign b1 b2 b3 b4 u) ?_
    simp only [s_gt (sgn_r _ _)]
    refine ok_if (fun d => ok_some ⟨?_, hu.1⟩) (fun d => ok_some ⟨?_, hu.1⟩)
    · rw [if_pos ⟨h, c1⟩, if_pos (show 0 < wtv q x.toNatClampNeg from d)]
    · rw [if_pos ⟨h, c1⟩, if_neg (show ¬ 0 < wtv q x.toNatClampNeg from d)]
