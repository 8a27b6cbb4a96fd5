theorem pr_placed {q : Sg} (hw : WF q) (x y : Int32) : Pr (f_Da_placed x y) (f_Mo_placed x y) q := by
  have hd4 := hw.2.2.2.2.2.1
  have hlk : ∀ k, sl q = some k → k < 12 := fun k hk => (hw.2.2.2.2.1 k hk).1
  by_cases hc : (1 ≤ x.toInt ∧ x.toInt ≤ 5) ∧ inb y 2
  · obtain ⟨⟨c1, c2⟩, c3⟩ := hc
    obtain ⟨n, hn⟩ : ∃ n : Nat, x.toInt = n := ⟨x.toInt.toNat, by omega⟩
    have hx : x = cI n := Int32.toInt_inj.mp (by rw [hn, cI_toInt (by omega)])
    have n5 : n ≤ 5 := by omega
    have n1 : 1 ≤ n := by omega
    have n0 : ¬ pc 0 = n := by show ¬ 0 = n; omega
    have hinD := lmn_in (plD q n) (plX q) (plY q) (plL q)
    have hinA := lmn_in (plA q n) (plX q) (plY q) (plL q)
    have hD : ∀ k, plD q n k = true → plA q n k = true := fun k hk => by unfold plD at hk; rw [Bool.and_eq_true] at hk; exact hk.1
    have hBD : ∀ j b, lmn (plD q n) (plX q) (plY q) (plL q) j = some b → b < 4096 ∧ tB (plX q b) (plY q b) (plL q b) := fun j b hb => ⟨(plA_h (hD _ (hinD j b hb).2)).1, pl_B hw n5 (hD _ (hinD j b hb).2)⟩
    have hBA : ∀ j b, lmn (plA q n) (plX q) (plY q) (plL q) j = some b → b < 4096 ∧ tB (plX q b) (plY q b) (plL q b) := fun j b hb => ⟨(plA_h (hinA j b hb).2).1, pl_B hw n5 (hinA j b hb).2⟩
    refine ⟨if y = 0 then cI (smc (plF q n) 4096) else lkI (lmn (plA q n) (plX q) (plY q) (plL q) 4096), q, hw, fun g hg => ?_, fun g hg => ?_⟩
    · unfold f_Da_placed
      rw [show (2 : Int32) = cI 2 from rfl]
      refine ok_neg (by rw [Int32.lt_iff_toInt_lt]; show ¬ x.toInt < 1; omega) (ok_neg (by rw [Int32.lt_iff_toInt_lt]; show ¬ (5 : Int) < x.toInt; omega) (ok_grd (da_among (by decide) g) (fun n => absurd c3 n) (fun _ => ?_)))
      refine ok_bindm (le_clear g (plX q) (plY q) (plL q)) (fun r hr => ?_)
      have fr0 : FL g r := fun t _ t2 => hr.2 t t2
      have hPr : PL r 7 (sn q) (sp q) (sb q) (sl q) (sd q) := PL_k hg.1 (fun t _ _ => (hr.2 t (by omega)).1)
      refine ok_bindm (pl_copy (a := 73) hPr (by omega)) (fun r1 hr1 => ?_)
      obtain ⟨p1, p2, p3, p4, p5⟩ := hr1
      rw [hx]
      refine ok_bindm (Q := fun e => e.1 = cI (smc (plG q n) 4096) ∧ LSt e.2 (plX q) (plY q) (plL q) (lmn (plD q n) (plX q) (plY q) (plL q) 4096) ∧ FL g e.2) ?_ (fun e he => ok_if (fun c => ok_some ⟨?_, FL_I hw hg he.2.2⟩) (fun c => ok_some ⟨?_, FL_I hw hg he.2.2⟩))
      · refine ok_lp (fun j st => ∃ z, st = (cI (smc (plG q n) j), cI j, z) ∧ LSt z (plX q) (plY q) (plL q) (lmn (plD q n) (plX q) (plY q) (plL q) j) ∧ FL g z ∧ ∃ m pos br, PL z 73 m pos br (sl q) (sd q)) 4096 5000 0 _ (by omega) (by omega) ⟨r1, rfl, ⟨by rw [p4 151 (by decide) (by decide) (by decide)]; exact hr.1.1, fun b hb => by rw [p5]; exact hr.1.2 b hb⟩, fun t t1 t2 => by rw [p4 t (by omega) (by omega) (by omega), p5]; exact fr0 t t1 t2, _, _, _, p1⟩ ?_
        rintro j st hj ⟨z, rfl, z1, z2, m, pos, br, zP⟩
        show Ok (b_Da_placed_26 (cI n) y (cI (smc (plG q n) j)) (cI j) z) _
        unfold b_Da_placed_26
        by_cases hj2 : j = 4096
        · rw [hj2] at z1 ⊢
          exact ok_pos (lt_yes (a := 4095) (b := 4096) (by decide) (by decide)) (ok_some ⟨rfl, z1, z2⟩)
        · have hj' : j < 4096 := by omega
          have hp12 := pc_le j
          refine ok_neg (lt_no (a := 4095) (b := j) (by omega) (by decide)) ?_
          rw [pc_e hj' z]
          have e0 : plG q n j = 0 → smc (plG q n) (j + 1) = smc (plG q n) j := fun e => by show smc (plG q n) j + plG q n j = _; rw [e, Nat.add_zero]
          refine ok_if (fun c => ?_) (fun c => ?_)
          · have hp : pc j = n := (cI_inj (by omega) (by omega)).mp c
            refine ok_binde (mv_e hj' (by omega) z) ?_
            unfold j_Da_placed_38
            have hm12 : msd j ≤ 12 := mss_le j 11 (rot1 j)
            refine ok_if (fun d => ?_) (fun d => ?_)
            · have h0 : msd j = 0 := by
                have := (cI_le (a := msd j) (b := 0) (by omega) (by decide)).mp d
                omega
              have g0 : plG q n j = 0 := by unfold plG; rw [h0, ite_self]
              have en : lmn (plD q n) (plX q) (plY q) (plL q) (j + 1) = lmn (plD q n) (plX q) (plY q) (plL q) j := lmn_n (by unfold plD; rw [h0]; simp)
              exact ok_some ⟨hj', z, by rw [e0 g0, c_succ], by rw [en]; exact z1, z2, m, pos, br, zP⟩
            · have h0 : 0 < msd j := by
                rcases Nat.eq_zero_or_pos (msd j) with h | h
                · exact absurd ((cI_le (a := msd j) (b := 0) (by omega) (by decide)).mpr (by omega)) d
                · exact h
              refine ok_bindm (pl_stand zP hj' (by omega)) (fun w hw2 => ok_bindm (tr_solve hw2.1) (fun v hv => ?_))
              have fv : FT z v := fun t ht => by rw [(hv.2.2.2 t ht).1, (hv.2.2.2 t ht).2, hw2.2.1 t (by omega) (by omega), hw2.2.2]; exact ⟨rfl, rfl⟩
              have f1 : FL g v := fun t t1 t2 => by rw [(fv t t1).1, (fv t t1).2]; exact z2 t t1 t2
              have hA := plA_e (q := q) hj' hp
              refine ok_grd hv.2.1 (fun c4 => ?_) (fun c4 => ?_)
              · have a0 : plA q n j = false := by rw [hA]; exact Bool.eq_false_iff.mpr c4
                have g0 : plG q n j = 0 := by unfold plG; rw [a0]; rfl
                have en : lmn (plD q n) (plX q) (plY q) (plL q) (j + 1) = lmn (plD q n) (plX q) (plY q) (plL q) j := lmn_n (by unfold plD; rw [a0]; simp)
                exact ok_some ⟨hj', v, by rw [e0 g0, c_succ], by rw [en]; exact LS_f z1 fv, f1, _, _, _, hv.2.2.1.1⟩
              · have a1 : plA q n j = true := by rw [hA]; exact c4
                have g0 : plG q n j = msd j := by unfold plG; rw [if_pos a1]
                have en : lmn (plD q n) (plX q) (plY q) (plL q) (j + 1) = lst (plX q) (plY q) (plL q) (lmn (plD q n) (plX q) (plY q) (plL q) j) j := lmn_y (by unfold plD; rw [a1, decide_eq_true h0]; rfl)
                refine ok_bindm (tr_offer (k := j) hv.2.2.1 c4 rfl rfl rfl (LS_f z1 fv) (hBD j)) (fun r2 hr2 => ok_some ⟨hj', r2, ?_, by rw [en]; exact hr2.1, fun t t1 t2 => ?_, _, _, _, PL_k hv.2.2.1.1 (fun t t1 t2 => (hr2.2 t (by omega)).1)⟩)
                · rw [cI_add, c_succ]
                  show _ = (cI (smc (plG q n) j + plG q n j), _, _)
                  rw [g0]
                · rw [(hr2.2 t t2).1, (hr2.2 t t2).2]; exact f1 t t1 t2
          · have hp : ¬ pc j = n := fun e => c (by rw [e])
            have a0 : plA q n j = false := plA_n hp
            have g0 : plG q n j = 0 := by unfold plG; rw [a0]; rfl
            have en : lmn (plD q n) (plX q) (plY q) (plL q) (j + 1) = lmn (plD q n) (plX q) (plY q) (plL q) j := lmn_n (by unfold plD; rw [a0]; simp)
            unfold j_Da_placed_38
            exact ok_pos (by decide) (ok_some ⟨hj', z, by rw [e0 g0, c_succ], by rw [en]; exact z1, z2, m, pos, br, zP⟩)
      · rw [if_pos c, he.1, pl_cnt hw n5]
      · rw [if_neg c, he.2.1.1, pl_lmn hw n5]
    · unfold f_Mo_placed
      refine ok_grd (mo_inI (a := 1) (b := 5) (by decide) (by decide) (by decide) (by decide) g) (fun n => absurd ⟨c1, c2⟩ n) (fun _ => ?_)
      rw [show (1 : Int64) = Int64.ofInt (((2 : Nat) : Int) - 1) from rfl]
      refine ok_grd (mo_in0 (by decide) g) (fun n => absurd c3 n) (fun _ => ok_binde (look_now hg.2.1) ?_)
      have hl5 : (wll (sl q) (dsx (sl q) (sd q))).length ≤ 5 := wll_len (Nat.le_trans (dsx_len _ _) hd4)
      refine ok_bindm (mo_wishes hw hg.2.1 hlk hl5) (fun q2 hq2 => ?_)
      obtain ⟨b1, b2, b3, b4, b5, b6⟩ := hq2
      rw [dsx_self hw] at b4 b5
      have f0 : FM g q2 := ⟨fun t ht => ⟨b2 t (by omega) (by omega), by rw [b1]⟩, fun t ht => b3 t (by omega) (by omega)⟩
      rw [hx]
      refine ok_bindm (Q := fun e => e.1 = cI (smc (plF q n) 4096) ∧ e.2.1 = lkI (lmn (plA q n) (plX q) (plY q) (plL q) 4096) ∧ FM g e.2.2) ?_ (fun e he => ok_if (fun c => ok_some ⟨by rw [if_pos c]; exact he.1, IM_f hg he.2.2, FM_K he.2.2⟩) (fun c => ok_some ⟨by rw [if_neg c]; exact he.2.1, IM_f hg he.2.2, FM_K he.2.2⟩))
      have i1 : smc (plF q n) 1 = 0 := by
        show 0 + plF q n 0 = 0
        unfold plF
        rw [plA_n n0]; rfl
      have i2 : lmn (plA q n) (plX q) (plY q) (plL q) 1 = none := lmn_n (by rw [plA_n n0]; decide)
      refine ok_lp (fun j st => ∃ z, st = (cI (smc (plF q n) j), lkI (lmn (plA q n) (plX q) (plY q) (plL q) j), cI j, z) ∧ FM g z ∧ WI z q ∧ ML z (plX q) (plY q) (plL q) (lmn (plA q n) (plX q) (plY q) (plL q) j)) 4096 5000 1 _ (by omega) (by omega) ⟨q2, by rw [i1, i2]; rfl, f0, ⟨b4, b5, b6⟩, fun b hb => by rw [i2] at hb; cases hb⟩ ?_
      rintro j st hj ⟨z, rfl, z1, z2, z3⟩
      show Ok (b_Mo_placed_24 (cI n) y (cI (smc (plF q n) j)) (lkI (lmn (plA q n) (plX q) (plY q) (plL q) j)) (cI j) z) _
      unfold b_Mo_placed_24
      by_cases hj2 : j = 4096
      · rw [hj2]
        exact ok_pos (le_yes (a := 4096) (b := 4096) (Nat.le_refl _) (by decide)) (ok_some ⟨rfl, rfl, z1⟩)
      · have hj' : j < 4096 := by omega
        have hp12 := pc_le j
        refine ok_neg (le_no (a := 4096) hj' (by decide)) ?_
        rw [pc_e hj' z]
        refine ok_if (fun c => ?_) (fun c => ?_)
        · have hp : pc j = n := (cI_inj (by omega) (by omega)).mp c
          have hIz := IM_f hg z1
          refine ok_bd (ok_bindm (mo_lay z hj' (by omega) _ _ _ _) (fun w hw2 => ok_bindm (mo_lsol hw hIz z2 (by omega) hw2) (fun r hr => ?_)))
          obtain ⟨r1, r2, r3, r4⟩ := hr
          have hA := plA_e (q := q) hj' hp
          have hs1 := lsc_s (plA q n) (plX q) (plY q) (plL q) j
          rw [hA] at hs1
          have go : ∀ v : Int32, v = cI (smc (plF q n) (j + 1)) → Ok (j_Mo_placed_72 (cI n) y v (lkI (lmn (plA q n) (plX q) (plY q) (plL q) j)) (cI j) r) (fun r => Sum.elim (fun s2 => j < 4096 ∧ ∃ z, s2 = (cI (smc (plF q n) (j + 1)), lkI (lmn (plA q n) (plX q) (plY q) (plL q) (j + 1)), cI (j + 1), z) ∧ FM g z ∧ WI z q ∧ ML z (plX q) (plY q) (plL q) (lmn (plA q n) (plX q) (plY q) (plL q) (j + 1))) (fun e => e.1 = cI (smc (plF q n) 4096) ∧ e.2.1 = lkI (lmn (plA q n) (plX q) (plY q) (plL q) 4096) ∧ FM g e.2.2) r) := by
            intro v hv
            unfold j_Mo_placed_72
            refine mo_less (c := hdq (pc j) (pqs j) 0 (sl q) (sd q)) (k := j) (X := plX q) (Y := plY q) (L := plL q) (o := lmn (plA q n) (plX q) (plY q) (plL q) j) (A := fun r => some (Sum.inl (v, lkI (lmn (plA q n) (plX q) (plY q) (plL q) j), cI j + (1 : Int32), r))) (B := fun r => some (Sum.inl (v, cI j, cI j + (1 : Int32), r))) (fun b hb => (hBA j b hb).1) r2.2.2.1 (wb_tot (by omega) hd4 r2 rfl rfl rfl) (ML_f z3 r4) (fun b hb => (hBA j b hb).2) (fun r2 e1 e2 e3 e4 => ok_some ⟨hj', r2, ?_, FM_tr z1 (FM_tr r1 e3), ⟨by rw [e4]; exact r3.1, fun i hi => by rw [e4]; exact r3.2.1 i hi, by rw [e4]; exact r3.2.2⟩, ?_⟩) (fun r2 e1 e2 e3 e4 => ok_some ⟨hj', r2, ?_, FM_tr z1 (FM_tr r1 e3), ⟨by rw [e4]; exact r3.1, fun i hi => by rw [e4]; exact r3.2.1 i hi, by rw [e4]; exact r3.2.2⟩, ?_⟩)
            · rw [← hs1, e1, hv, c_succ]
            · rw [← hs1, e1]; exact e2
            · rw [← hs1, e1, hv, c_succ]; rfl
            · rw [← hs1, e1]; exact e2
          refine ok_grd r2.2.2.1 (fun c4 => go _ ?_) (fun c4 => go _ ?_)
          · have a0 : plF q n j = 0 := by unfold plF; rw [if_neg (by rw [hA]; exact c4)]
            rw [show (0 : Int32) = cI 0 from rfl, cI_add]
            show _ = cI (smc (plF q n) j + plF q n j)
            rw [a0]
          · have a0 : plF q n j = 1 := by unfold plF; rw [if_pos (by rw [hA]; exact c4)]
            rw [c_succ]
            show _ = cI (smc (plF q n) j + plF q n j)
            rw [a0]
        · have hp : ¬ pc j = n := fun e => c (by rw [e])
          have a0 : plA q n j = false := plA_n hp
          have g0 : smc (plF q n) (j + 1) = smc (plF q n) j := by
            show smc (plF q n) j + plF q n j = _
            unfold plF; rw [a0]; rfl
          have en : lmn (plA q n) (plX q) (plY q) (plL q) (j + 1) = lmn (plA q n) (plX q) (plY q) (plL q) j := lmn_n (by rw [a0]; decide)
          exact ok_some ⟨hj', z, by rw [g0, en, c_succ], z1, z2, by rw [en]; exact z3⟩
  · refine ⟨-2, q, hw, fun g hg => ?_, fun g hg => ?_⟩
    · unfold f_Da_placed
      rw [show (2 : Int32) = cI 2 from rfl]
      refine ok_if (fun d1 => ok_some ⟨rfl, hg, KC_rf g⟩) (fun d1 => ok_if (fun d2 => ok_some ⟨rfl, hg, KC_rf g⟩) (fun d2 => ok_grd (da_among (by decide) g) (fun _ => ok_some ⟨rfl, hg, KC_rf g⟩) (fun d3 => absurd ⟨⟨?_, ?_⟩, d3⟩ hc)))
      · rw [Int32.lt_iff_toInt_lt] at d1
        have : ¬ x.toInt < 1 := d1
        omega
      · rw [Int32.lt_iff_toInt_lt] at d2
        have : ¬ (5 : Int) < x.toInt := d2
        omega
    · unfold f_Mo_placed
      refine ok_grd (mo_inI (a := 1) (b := 5) (by decide) (by decide) (by decide) (by decide) g) (fun _ => ok_some ⟨rfl, hg, KM_rf g⟩) (fun d1 => ?_)
      rw [show (1 : Int64) = Int64.ofInt (((2 : Nat) : Int) - 1) from rfl]
      exact ok_grd (mo_in0 (by decide) g) (fun _ => ok_some ⟨rfl, hg, KM_rf g⟩) (fun d3 => absurd ⟨d1, d3⟩ hc)
