/-! likeness -/
theorem mo_laysPowr {g : M2} (hp : PW g) {a : Nat} (ha : a < 88) (ha0 : a ≠ 80) (ha1 : a ≠ 81) {v : Z4} (hv : rM g a = q64 v) : Ok (f_Mo_laysPower (cI a) g) (fun r => LPw g r v) := by
  unfold f_Mo_laysPower
  refine ok_bindm (mn_clears (MN_rf g) (a := 81) (by decide)) (fun q1 h1 => ?_)
  refine ok_bindm (Q := fun r => MN g r (up (rM g) 81 (cj (q64 v)))) ?_ (fun e5 h5 => ?_)
  · refine ok_for 4 (by decide) (fun k z => MN g z (up (rM g) 81 (psm (q64 v) k))) h1 ?_ ?_
    · intro k z hk hz
      show Ok (b_Mo_laysPower_5 (cI a) (cI k) z) _
      unfold b_Mo_laysPower_5
      refine ok_neg (le_no (a := 4) hk (by decide)) (ok_binde (mo_part (by omega) hk z) ?_)
      rw [hz.2.2 a (by omega), up_o _ _ (by omega), hv, c_neg]
      refine ok_bindm (mn_addsPower hz hp (t := 81) (by decide) (by omega) (by omega) _) (fun r hr => ok_some ⟨c_succ k, ?_⟩)
      rw [up_s, up_up] at hr
      exact hr
    · intro z hz
      show Ok (b_Mo_laysPower_5 (cI a) (cI 4) z) _
      unfold b_Mo_laysPower_5
      rw [psm_4] at hz
      exact ok_pos (le_yes (a := 4) (Nat.le_refl _) (by decide)) (ok_some hz)
  · refine ok_bindm (mn_clears h5 (a := 80) (by decide)) (fun q6 h6 => ?_)
    refine ok_bindm (mn_addsProduct h6 hp (t := 80) (a := a) (b := 81) (by decide) (by omega) (by decide) 1) (fun q7 h7 => ?_)
    have h80 : rM q7 80 = q64 (re (pXz v) (pYz v)) := by
      rw [h7.2.2 80 (by decide), up_s, up_s, up_o _ _ (show a ≠ 80 by omega), up_o _ _ (show a ≠ 81 by omega), up_o _ _ (show 81 ≠ 80 by decide), up_s, hv, ← q64_cj]
      have e := pw_eq v
      have e2 : qmul (q64 v) (q64 (cj v)) = q64 (re (pXz v) (pYz v)) := by rw [← q64_mul, e]; rfl
      rw [e2]
      generalize q64 (re (pXz v) (pYz v)) = w
      apply q_ext <;> simp [qadd, qsc]
    refine ok_binde (mo_part (a := 80) (i := 0) (by decide) (by decide) q7) (ok_bd ?_)
    refine ok_binde (mo_part (a := 80) (i := 3) (by decide) (by decide) _) (ok_bd (ok_some ?_))
    rw [rM_u7, h80]
    refine ⟨h7.1, fun y y1 y2 y3 => by rw [uJ_o _ _ _ y1, uJ_o _ _ _ y1]; exact h7.2.1 y y2 y3, fun j j1 j2 => by rw [uJ_k _ _ _ j2, uJ_k _ _ _ j1, h7.2.1 157 (by decide) (by decide)], fun b hb => ?_, fun b hb hb2 => ?_, ?_, ?_⟩
    · rw [rM_u7, rM_u7, h7.2.2 b (by omega), up_o _ _ (by omega), up_o _ _ (by omega), up_o _ _ (by omega)]
    · rw [rM_u7, rM_u7, h7.2.2 b (by omega), up_o _ _ (by omega), up_o _ _ (by omega), up_o _ _ (by omega)]
    · rw [uJ_k _ _ _ (by decide), uJ_s]; rfl
    · rw [uJ_s]
      show -(Int64.ofInt (-(pYz v))) = _
      rw [o64_neg]
theorem mo_like {g : M2} {q : Sg} (hw : WF q) (hM : IM g q) {a b : Nat} (ha : a < 12) (hb : b < 12) : Ok (f_Mo_laysLikeness (cI a) (cI b) g) (fun r => FM g r ∧ r.2 157 3 = Int64.ofInt (pXz (zsum ((qp q).map (fun p => rt (a * p + 11 * (b * p)))))) ∧ r.2 157 4 = Int64.ofInt (pYz (zsum ((qp q).map (fun p => rt (a * p + 11 * (b * p))))))) := by
  have hn := hw.1
  unfold f_Mo_laysLikeness
  refine ok_bindm (mn_clears (MN_rf g) (a := 87) (by decide)) (fun q1 h1 => ?_)
  refine ok_bindm (Q := fun r => MN g r (up (rM g) 87 (q64 (zsum ((qp q).map (fun p => rt (a * p + 11 * (b * p)))))))) ?_ (fun e7 h7 => ?_)
  · refine ok_for (sn q) (by omega) (fun k z => MN g z (up (rM g) 87 (q64 (zsum ((wkl (sp q) (sb q) k).map (fun p => rt (a * p + 11 * (b * p)))))))) h1 ?_ ?_
    · intro k z hk hz
      show Ok (b_Mo_laysLikeness_5 (cI a) (cI b) (cI k) z) _
      unfold b_Mo_laysLikeness_5
      have hWz : WD z q := WD_f hM.2.1 (by rw [hz.1])
      rw [hWz.2.1]
      refine ok_neg (le_no hk (by omega)) (ok_binde (mo_isBroken hWz hk hn) ?_)
      rw [wkl_s]
      by_cases hbit : (sb q).testBit k = true
      · rw [if_pos hbit, if_pos hbit]
        exact ok_neg (by decide) (ok_some ⟨c_succ k, hz⟩)
      · rw [if_neg hbit, if_neg hbit]
        rw [show (2 : Int32) = cI 2 from rfl, cI_add]
        refine ok_pos rfl (ok_pos (inb_cI (by omega) (by decide)) ?_)
        rw [cI_nat (by omega), hWz.2.2.1 k hk, c_sub, c_mulI]
        have hbd := bnd12 ha hb (hw.2.1 k hk)
        refine ok_bindm (mn_addsPower hz hM.1 (t := 87) (by decide) (by omega) (by omega) 1) (fun r hr => ok_some ⟨c_succ k, ?_⟩)
        rw [up_up, up_s, rz_gram, qsc_1] at hr
        rw [List.map_append, List.map_cons, List.map_nil, zsum_app, q64_add]
        exact hr
    · intro z hz
      show Ok (b_Mo_laysLikeness_5 (cI a) (cI b) (cI (sn q)) z) _
      unfold b_Mo_laysLikeness_5
      have hWz : WD z q := WD_f hM.2.1 (by rw [hz.1])
      rw [hWz.2.1]
      exact ok_pos (le_yes (Nat.le_refl _) (by omega)) (ok_some hz)
  · refine ok_bindm (mo_laysPowr (g := e7) (fun j hj => by rw [h7.1]; exact hM.1 j hj) (a := 87) (by decide) (by decide) (by decide) ((h7.2.2 87 (by decide)).trans (up_s _ _ _))) (fun r hr => ok_some ?_)
    exact ⟨FM_tr (FM_N h7) (FM_P hr), hr.2.2.2.2.2.1, hr.2.2.2.2.2.2⟩
theorem pr_likeness {q : Sg} (hw : WF q) (x y w : Int32) : Pr (f_Da_likeness x y w) (f_Mo_likeness x y w) q := by
  refine ⟨if inb x 12 then (if inb y 12 then (if inb w 2 then (if w = 0 then (Int64.ofInt (pXz (zsum ((qp q).map (fun p => rt (x.toNatClampNeg * p + 11 * (y.toNatClampNeg * p))))))).toInt32 else (Int64.ofInt (pYz (zsum ((qp q).map (fun p => rt (x.toNatClampNeg * p + 11 * (y.toNatClampNeg * p))))))).toInt32) else -1000) else -1000) else -1000, q, hw, fun g hg => ?_, fun g hg => ?_⟩
  · unfold f_Da_likeness
    rw [show (2 : Int32) = cI 2 from rfl]
    simp only [da_dir, da_among (show 2 < 2 ^ 31 by decide), if10e]
    by_cases c : inb x 12
    · refine ok_neg (fun e => e c) ?_
      by_cases c2 : inb y 12
      · refine ok_neg (fun e => e c2) ?_
        by_cases c3 : inb w 2
        · refine ok_neg (fun e => e c3) ?_
          have hm := pl_meet (A := fun t => t = 155) (CN_rf _ g) hg.1 c.2 c2.2 (t := 155) rfl
          rw [← inb_to c, ← inb_to c2] at hm
          refine ok_bindm hm (fun r hr => ?_)
          have hv : rN r 155 = q64 (zsum ((qp q).map (fun p => rt (x.toNatClampNeg * p + 11 * (y.toNatClampNeg * p))))) := by
            rw [hr.2.2.2, up_s]
          have hC : IC r q ∧ KC g r := ⟨IC_q hw hg (fun z _ hz => ⟨by rw [hr.1], hr.2.1 z (fun e => hz (by unfold qc; omega))⟩), fun z hz => ⟨by rw [hr.1], hr.2.1 z (fun e => by omega)⟩⟩
          refine ok_if (fun d => ok_some ⟨?_, hC⟩) (fun d => ok_some ⟨?_, hC⟩)
          · rw [if_pos c, if_pos c2, if_pos c3, if_pos d, pX64 hv]
          · rw [if_pos c, if_pos c2, if_pos c3, if_neg d, pY64 hv]
        · exact ok_pos c3 (ok_some ⟨by rw [if_neg c3, ite_self, ite_self], hg, KC_rf g⟩)
      · exact ok_pos c2 (ok_some ⟨by rw [if_neg c2, ite_self], hg, KC_rf g⟩)
    · exact ok_pos c (ok_some ⟨by rw [if_neg c], hg, KC_rf g⟩)
  · unfold f_Mo_likeness
    simp only [mo_dir, show (1 : Int64) = Int64.ofInt (((2 : Nat) : Int) - 1) from rfl, mo_in0 (show 2 < 2 ^ 31 by decide), if10e]
    by_cases c : inb x 12
    · refine ok_neg (fun e => e c) ?_
      by_cases c2 : inb y 12
      · refine ok_neg (fun e => e c2) ?_
        by_cases c3 : inb w 2
        · refine ok_neg (fun e => e c3) ?_
          have hm := mo_like hw hg c.2 c2.2
          rw [← inb_to c, ← inb_to c2] at hm
          refine ok_bindm hm (fun r hr => ?_)
          refine ok_if (fun d => ok_some ⟨?_, IM_f hg hr.1, FM_K hr.1⟩) (fun d => ok_some ⟨?_, IM_f hg hr.1, FM_K hr.1⟩)
          · rw [if_pos c, if_pos c2, if_pos c3, if_pos d, hr.2.1]
          · rw [if_pos c, if_pos c2, if_pos c3, if_neg d, hr.2.2]
        · exact ok_pos c3 (ok_some ⟨by rw [if_neg c3, ite_self, ite_self], hg, KM_rf g⟩)
      · exact ok_pos c2 (ok_some ⟨by rw [if_neg c2, ite_self], hg, KM_rf g⟩)
    · exact ok_pos c (ok_some ⟨by rw [if_neg c], hg, KM_rf g⟩)
