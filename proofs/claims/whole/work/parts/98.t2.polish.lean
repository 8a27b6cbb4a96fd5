/-! the reference seeks a step; step, polish -/
/-- the reference's sums over deaf ones -/
theorem mo_deafs {z : M2} {q : Sg} (hw : WF q) (hI : IM z q) {W : Nat → Z4} (hW : CW z q W) (h0 : w0 q W) : Ok (f_Mo_laysDeafPowers z) (fun r => MF z r ∧ CW r q W ∧ r.2 157 32 = Int64.ofInt (dX q W) ∧ r.2 157 33 = Int64.ofInt (dY q W)) := by
  have hd4 := hw.2.2.2.2.2.1
  have hn := hw.1
  unfold f_Mo_laysDeafPowers
  refine ok_bd (ok_bd (ok_bindm (Q := fun r => MF z r ∧ CW r q W ∧ r.2 157 32 = Int64.ofInt (dX q W) ∧ r.2 157 33 = Int64.ofInt (dY q W)) ?_ (fun r hr => ok_some hr)))
  refine ok_for (sd q).length (by omega) (fun j u => MF z u ∧ CW u q W ∧ u.2 157 32 = Int64.ofInt (dXn q W j) ∧ u.2 157 33 = Int64.ofInt (dYn q W j)) ⟨⟨rfl, fun y y1 _ _ => by rw [uJ_o _ _ _ y1, uJ_o _ _ _ y1], fun j _ _ j3 j4 => by rw [uJ_k _ _ _ j4, uJ_k _ _ _ j3], fun a _ => by rw [rM_uJ, rM_uJ]⟩, fun e he => by rw [rM_uJ, rM_uJ]; exact hW e he, by rw [uJ_k _ _ _ (by decide), uJ_s]; rfl, by rw [uJ_s]; rfl⟩ ?_ ?_
  · rintro j u hj ⟨u1, u2, u3, u4⟩
    show Ok (b_Mo_laysDeafPowers_8 (cI j) u) _
    unfold b_Mo_laysDeafPowers_8
    have hIu := IM_f hI (MF_F u1)
    rw [hIu.2.1.2.2.2.2.2.1, show (14 : Int32) = cI 14 from rfl, cI_add]
    refine ok_neg (le_no hj (by omega)) (ok_pos (inb_cI (by omega) (by decide)) ?_)
    rw [cI_nat (by omega), hIu.2.1.2.2.2.2.2.2.1 j hj]
    refine mo_cp hw hIu u2 h0 (d12 hw hj) (fun p p1 p2 p3 p4 p5 => ok_bd (ok_bd (ok_some ⟨c_succ j, ?_⟩)))
    rw [uJ_k _ _ _ (show 33 ≠ 32 by decide), uJ_k _ _ _ (show 4 ≠ 32 by decide), p3, p4, p5 32 (by decide) (by decide), p5 33 (by decide) (by decide), u3, u4, ← Int64.ofInt_add, ← Int64.ofInt_add]
    refine ⟨MF_tr u1 (MF_tr p1 ⟨rfl, fun y y1 _ _ => by rw [uJ_o _ _ _ y1, uJ_o _ _ _ y1], fun j _ _ j3 j4 => by rw [uJ_k _ _ _ j4, uJ_k _ _ _ j3], fun a _ => by rw [rM_uJ, rM_uJ]⟩), fun e he => by rw [rM_uJ, rM_uJ]; exact p2 e he, by rw [uJ_k _ _ _ (by decide), uJ_s]; rfl, by rw [uJ_s]; rfl⟩
  · rintro u ⟨u1, u2, u3, u4⟩
    show Ok (b_Mo_laysDeafPowers_8 (cI (sd q).length) u) _
    unfold b_Mo_laysDeafPowers_8
    rw [(IM_f hI (MF_F u1)).2.1.2.2.2.2.2.1]
    exact ok_pos (le_yes (Nat.le_refl _) (by omega)) (ok_some ⟨u1, u2, u3, u4⟩)
theorem setc_rt (v : Z4) : ∀ p : Nat, p < 4 → ∀ sg : Bool, setc (q64 v) p (cmp (q64 v) p + (if sg then (1 : Int64) else -1)) = q64 (qadd v (rt (p + (if sg then 0 else 6)))) := by
  intro p hp sg
  have h4 : p = 0 ∨ p = 1 ∨ p = 2 ∨ p = 3 := by omega
  have r0 : rt 0 = (1, 0, 0, 0) := rfl
  have r1 : rt 1 = (0, 1, 0, 0) := rfl
  have r2 : rt 2 = (0, 0, 1, 0) := rfl
  have r3 : rt 3 = (0, 0, 0, 1) := rfl
  have r6 : rt 6 = (-1, 0, 0, 0) := rfl
  have r7 : rt 7 = (0, -1, 0, 0) := rfl
  have r8 : rt 8 = (0, 0, -1, 0) := rfl
  have r9 : rt 9 = (0, 0, 0, -1) := rfl
  have o1 : Int64.ofInt (-1) = -1 := rfl
  have o2 : Int64.ofInt 1 = 1 := rfl
  rcases h4 with e | e | e | e <;> subst e <;> cases sg <;> simp only [if_true, if_false, Bool.false_eq_true, Nat.add_zero, Nat.zero_add, Nat.reduceAdd, r0, r1, r2, r3, r6, r7, r8, r9] <;> apply q_ext <;> simp [setc, cmp, q64, qadd, Int64.ofInt_add, o1, o2]
/-- one part of one cut weight changes -/
theorem cw_st {z : M2} {q : Sg} (hn : sn q ≤ 5) {W : Nat → Z4} (hW : CW z q W) {c : Nat} (hc : c / 8 < sn q) {x : Int64} (hx : x = if c % 2 = 0 then 1 else -1) : CW (uJ z 158 (4 * (82 + c / 8) + c / 2 % 4) (z.2 158 (4 * (82 + c / 8) + c / 2 % 4) + x)) q (stC W c) ∧ (∀ a, a ≠ 82 + c / 8 → rM (uJ z 158 (4 * (82 + c / 8) + c / 2 % 4) (z.2 158 (4 * (82 + c / 8) + c / 2 % 4) + x)) a = rM z a) := by
  have hp : c / 2 % 4 < 4 := Nat.mod_lt _ (by decide)
  rw [uJ_sM z (82 + c / 8) hp]
  refine ⟨fun e he => ?_, fun a ha => rM_sMo _ _ ha⟩
  by_cases hec : e = c / 8
  · have e1 : stC W c e = qadd (W e) (rt (rtS c)) := if_pos hec
    rw [e1, hec, rM_sM, hW (c / 8) hc]
    have ev : z.2 158 (4 * (82 + c / 8) + c / 2 % 4) = cmp (q64 (W (c / 8))) (c / 2 % 4) := by
      rw [← hW (c / 8) hc]
      have h4 : c / 2 % 4 = 0 ∨ c / 2 % 4 = 1 ∨ c / 2 % 4 = 2 ∨ c / 2 % 4 = 3 := by omega
      rcases h4 with e2 | e2 | e2 | e2 <;> rw [e2] <;> rfl
    rw [ev, hx]
    have h1 := setc_rt (W (c / 8)) (c / 2 % 4) hp (decide (c % 2 = 0))
    unfold rtS
    by_cases h2 : c % 2 = 0
    · rw [if_pos h2, if_pos h2]
      rw [decide_eq_true h2] at h1
      exact h1
    · rw [if_neg h2, if_neg h2]
      rw [decide_eq_false h2] at h1
      exact h1
  · have e1 : stC W c e = W e := if_neg hec
    rw [e1, rM_sMo _ _ (by omega)]; exact hW e he
theorem MF_u {z : M2} {a : Nat} (ha : 320 ≤ a) (x : Int64) : MF z (uJ z 158 a x) := by
  refine ⟨rfl, fun y _ y2 _ => uJ_o _ _ _ y2, fun j _ _ _ _ => by rw [uJ_o _ _ _ (by decide)], fun b hb => ?_⟩
  unfold rM
  rw [uJ_k _ _ _ (by omega), uJ_k _ _ _ (by omega), uJ_k _ _ _ (by omega), uJ_k _ _ _ (by omega)]
theorem sg_64 (c : Nat) : (sgI c).toInt64 = if c % 2 = 0 then (1 : Int64) else -1 := by
  unfold sgI
  split <;> rfl
theorem mo_best {z : M2} {q : Sg} (hw : WF q) (hI : IM z q) {W : Nat → Z4} (hW : CW z q W) (h0 : w0 q W) (hB : bW W (sn q) 199999) : Ok (f_Mo_bestStep z) (fun p => p.1 = lkI (bst q W (8 * sn q)).2.2 ∧ MF z p.2 ∧ CW p.2 q W) := by
  have hn := hw.1
  unfold f_Mo_bestStep
  refine ok_bindm (mo_deafs hw hI hW h0) (fun r hr => ?_)
  obtain ⟨r1, r2, r3, r4⟩ := hr
  refine ok_bindm (Q := fun e => ∃ u, e = (Int64.ofInt (bst q W (8 * sn q)).1, Int64.ofInt (bst q W (8 * sn q)).2.1, lkI (bst q W (8 * sn q)).2.2, u) ∧ MF z u ∧ CW u q W) ?_ (fun e he => ?_)
  · refine ok_lp (fun c st => ∃ u, st = (Int64.ofInt (bst q W c).1, Int64.ofInt (bst q W c).2.1, lkI (bst q W c).2.2, cI c, u) ∧ MF z u ∧ CW u q W) (8 * sn q) 5000 0 _ (by omega) (by omega) ⟨r, by rw [r3, r4]; rfl, r1, r2⟩ ?_
    rintro c st hc ⟨u, rfl, hu, hu2⟩
    show Ok (b_Mo_bestStep_12 (Int64.ofInt (bst q W c).1) (Int64.ofInt (bst q W c).2.1) (lkI (bst q W c).2.2) (cI c) u) _
    unfold b_Mo_bestStep_12
    have hIu := IM_f hI (MF_F hu)
    rw [hIu.2.1.2.1, show (8 : Int32) * cI (sn q) = cI (8 * sn q) by rw [show (8 : Int32) = cI 8 from rfl, cI_mul]]
    by_cases hc2 : c = 8 * sn q
    · subst hc2
      exact ok_pos (le_yes (Nat.le_refl _) (by omega)) (ok_some ⟨u, rfl, hu, hu2⟩)
    · have hc' : c < 8 * sn q := by omega
      have hc8 : c / 8 < sn q := by omega
      obtain ⟨k1, k2, k3⟩ := code_k c (by omega)
      rw [k1, k2, k3, show (82 : Int32) = cI 82 from rfl, cI_add, show (4 : Int32) = cI 4 from rfl, cI_mul, cI_add]
      have go : Ok (j_Mo_bestStep_44 (Int64.ofInt (bst q W c).1) (Int64.ofInt (bst q W c).2.1) (lkI (bst q W c).2.2) (cI c) (cI (c / 8)) (cI (4 * (82 + c / 8) + c / 2 % 4)) (sgI c) u) (fun r => Sum.elim (fun s2 => c < 8 * sn q ∧ ∃ u, s2 = (Int64.ofInt (bst q W (c + 1)).1, Int64.ofInt (bst q W (c + 1)).2.1, lkI (bst q W (c + 1)).2.2, cI (c + 1), u) ∧ MF z u ∧ CW u q W) (fun e => ∃ u, e = (Int64.ofInt (bst q W (8 * sn q)).1, Int64.ofInt (bst q W (8 * sn q)).2.1, lkI (bst q W (8 * sn q)).2.2, u) ∧ MF z u ∧ CW u q W) r) := by
        unfold j_Mo_bestStep_44
        refine ok_binde (mo_isBroken hIu.2.1 hc8 hn) ?_
        have i352 : inb (cI (4 * (82 + c / 8) + c / 2 % 4)) 352 := inb_cI (by omega) (by decide)
        by_cases hb : (sb q).testBit (c / 8) = true
        · rw [if_pos hb]
          refine ok_neg (by decide) (ok_some ⟨hc', u, ?_, hu, hu2⟩)
          rw [bst_b hb, c_succ]
        · rw [if_neg hb]
          refine ok_pos rfl (ok_pos i352 (ok_pos i352 (ok_bd ?_)))
          simp only [cI_nat (show 4 * (82 + c / 8) + c / 2 % 4 < 2 ^ 31 by omega), sg_64]
          obtain ⟨s1, s2⟩ := cw_st hn hu2 hc8 (x := if c % 2 = 0 then 1 else -1) rfl
          have m1 := MF_u (z := u) (a := 4 * (82 + c / 8) + c / 2 % 4) (by omega) (u.2 158 (4 * (82 + c / 8) + c / 2 % 4) + (if c % 2 = 0 then 1 else -1))
          refine ok_bindm (mo_deafs hw (IM_f hIu (MF_F m1)) s1 (w0_st h0 hb)) (fun v hv => ok_pos i352 (ok_pos i352 (ok_bd ?_)))
          obtain ⟨v1, v2, v3, v4⟩ := hv
          have hback : CW (uJ v 158 (4 * (82 + c / 8) + c / 2 % 4) (v.2 158 (4 * (82 + c / 8) + c / 2 % 4) - (if c % 2 = 0 then 1 else -1))) q W := by
            have hp : c / 2 % 4 < 4 := Nat.mod_lt _ (by decide)
            rw [uJ_sM v (82 + c / 8) hp]
            intro e he
            by_cases hec : e = c / 8
            · rw [hec, rM_sM]
              have e1 : stC W c (c / 8) = qadd (W (c / 8)) (rt (rtS c)) := if_pos rfl
              have hvc : rM v (82 + c / 8) = setc (q64 (W (c / 8))) (c / 2 % 4) (cmp (q64 (W (c / 8))) (c / 2 % 4) + (if c % 2 = 0 then 1 else -1)) := by
                rw [v2 (c / 8) hc8, e1]
                have h1 := setc_rt (W (c / 8)) (c / 2 % 4) hp (decide (c % 2 = 0))
                unfold rtS
                by_cases h2 : c % 2 = 0
                · rw [if_pos h2, if_pos h2]
                  rw [decide_eq_true h2] at h1
                  exact h1.symm
                · rw [if_neg h2, if_neg h2]
                  rw [decide_eq_false h2] at h1
                  exact h1.symm
              have ev : v.2 158 (4 * (82 + c / 8) + c / 2 % 4) = cmp (rM v (82 + c / 8)) (c / 2 % 4) := by
                have h4 : c / 2 % 4 = 0 ∨ c / 2 % 4 = 1 ∨ c / 2 % 4 = 2 ∨ c / 2 % 4 = 3 := by omega
                rcases h4 with e2 | e2 | e2 | e2 <;> rw [e2] <;> rfl
              rw [ev, hvc]
              generalize (if c % 2 = 0 then (1 : Int64) else -1) = x
              generalize q64 (W (c / 8)) = w
              have h4 : c / 2 % 4 = 0 ∨ c / 2 % 4 = 1 ∨ c / 2 % 4 = 2 ∨ c / 2 % 4 = 3 := by omega
              rcases h4 with e2 | e2 | e2 | e2 <;> rw [e2] <;> apply q_ext <;> simp [setc, cmp]
            · have e1 : stC W c e = W e := if_neg hec
              rw [rM_sMo _ _ (by omega), v2 e he, e1]
          have m2 := MF_u (z := v) (a := 4 * (82 + c / 8) + c / 2 % 4) (by omega) (v.2 158 (4 * (82 + c / 8) + c / 2 % 4) - (if c % 2 = 0 then 1 else -1))
          have mz := MF_tr hu (MF_tr m1 (MF_tr v1 m2))
          rw [uJ_o _ _ _ (show 157 ≠ 158 by decide), v3, v4, ← Int64.ofInt_sub, ← Int64.ofInt_sub]
          have hb1 := dX_b hw (bW_st hB c)
          have hb2 := bst_bd hw hB c
          refine ok_binde (mo_sign (by omega) (by omega) (by omega) (by omega) _) ?_
          simp only [s_lt (sgn_r _ _)]
          refine ok_if (fun d => ok_some ⟨hc', _, ?_, mz, hback⟩) (fun d => ok_some ⟨hc', _, ?_, mz, hback⟩)
          · rw [bst_y hb d, c_succ]; rfl
          · rw [bst_n hb d, c_succ]
      refine ok_neg (le_no hc' (by omega)) ?_
      by_cases h2 : c % 2 = 0
      · rw [h2]
        refine ok_pos rfl ?_
        rw [show sgI c = 1 from if_pos h2] at go
        exact go
      · rw [show c % 2 = 1 by omega]
        refine ok_neg (by decide) ?_
        rw [show sgI c = -1 from if_neg h2] at go
        exact go
  · obtain ⟨u, rfl, hu, hu2⟩ := he
    refine ok_bd (ok_bd (ok_some ⟨rfl, MF_tr hu ⟨rfl, fun y y1 _ _ => by rw [uJ_o _ _ _ y1, uJ_o _ _ _ y1], fun j _ _ j3 j4 => by rw [uJ_k _ _ _ j4, uJ_k _ _ _ j3], fun a _ => by rw [rM_uJ, rM_uJ]⟩, fun e he => by rw [rM_uJ, rM_uJ]; exact hu2 e he⟩))
theorem czw {q : Sg} (hw : WF q) (s : Nat) : w0 q (cz q s) := fun e _ hb => cz_0 hw hb s
/-- the answer of a step -/
def spv (x : Int32) (c : Nat) : Int32 := if x = 0 then cI (c / 8) else if x = 1 then cI (c / 2 % 4) else sgI c
theorem pr_step {q : Sg} (hw : WF q) (x : Int32) : Pr (f_Da_step x) (f_Mo_step x) q := by
  have hn := hw.1
  refine ⟨if qh q = true ∧ inb x 3 then (match (bst q (cz q (ss q)) (8 * sn q)).2.2 with | none => -1 | some c => spv x c) else -2, q, hw, cs_ref hw (fun g => rfl) (fun n => if_neg (fun e => n e.1)) (fun h r hC hN => ?_), fun g hg => ?_⟩
  · rw [show (3 : Int32) = cI 3 from rfl]
    refine ok_grd (da_among (by decide) r) (fun n => ok_some ⟨(if_neg (fun e => n e.2)).symm, hC, KC_rf r⟩) (fun c1 => ?_)
    rw [hC.2.1]
    refine ok_bindm (da_cuts hw h hC hN hw.2.2.2.2.2.2.2.2.1) (fun z hz => ok_bindm (cu_hear hw hz.1 hz.2.2.2) (fun u hu => ?_))
    have hCu := FC_I hw hz.1 hu.1
    have hbW := bW_m (cz_b hw h hw.2.2.2.2.2.2.2.2.1) (M := 199999) (by decide)
    refine ok_bindm (cu_seek hw hCu.1 hbW hu.2.1 hu.2.2.1 hu.2.2.2) (fun p hp => ?_)
    have hCp := FC_I hw hCu.1 hp.2.2.1
    have hI : IC p.2 q ∧ KC r p.2 := ⟨hCp.1, KC_tr hz.2.1 (KC_tr hCu.2 hCp.2)⟩
    rw [hp.1, if_pos (show qh q = true ∧ inb x 3 from ⟨h, c1⟩)]
    obtain ⟨_, _, _, k4, k5⟩ := hp.2.1
    cases ho : (bst q (cz q (ss q)) (8 * sn q)).2.2 with
    | none => exact ok_pos (by rw [if_pos rfl]) (ok_some ⟨rfl, hI⟩)
    | some c =>
      obtain ⟨k6, k7⟩ := k5 c ho
      rw [ho] at k4
      refine ok_neg (by rw [if_neg (by simp)]; decide) (ok_if (fun d => ok_some ⟨?_, hI⟩) (fun d => ok_if (fun d2 => ok_some ⟨?_, hI⟩) (fun d2 => ok_some ⟨?_, hI⟩)))
      · show _ = spv x c
        unfold spv; rw [if_pos d]; exact k4
      · show _ = spv x c
        unfold spv; rw [if_neg d, if_pos d2]; exact k6
      · show _ = spv x c
        unfold spv; rw [if_neg d, if_neg d2]; exact k7
  · unfold f_Mo_step
    rw [show (2 : Int64) = Int64.ofInt (((3 : Nat) : Int) - 1) from rfl]
    refine ok_grd (mo_in0 (by decide) g) (fun n => ok_some ⟨(if_neg (fun e => n e.2)).symm, hg, KM_rf g⟩) (fun c1 => mo_cutsNow hw hg (fun n => if_neg (fun e => n e.1)) (fun h r z hQ hz => ?_))
    obtain ⟨D, hD, hD1, hD2⟩ := hz
    have hWz : CW z q (cz q (ss q)) := fun e he => by rw [hD.2.2 _ (by omega)]; exact hD1 e he
    have hbW := bW_m (cz_b hw h hw.2.2.2.2.2.2.2.2.1) (M := 199999) (by decide)
    refine ok_bindm (mo_best hw (IM_N hQ.1 hD) hWz (czw hw _) hbW) (fun p hp => ?_)
    rw [hp.1, if_pos (show qh q = true ∧ inb x 3 from ⟨h, c1⟩)]
    have hf := MF_F hp.2.1
    cases ho : (bst q (cz q (ss q)) (8 * sn q)).2.2 with
    | none => exact ok_pos rfl (ok_some ⟨rfl, hf⟩)
    | some c =>
      have hlt := ((bst_in q (cz q (ss q)) (8 * sn q)).2 c ho).1.1
      obtain ⟨k1, k2, k3⟩ := code_k c (by omega)
      refine ok_neg (cI_m1 (b := c) (by omega)) ?_
      rw [show lkI (some c) = cI c from rfl, k1, k2, k3]
      refine ok_if (fun d => ok_some ⟨?_, hf⟩) (fun d => ok_if (fun d2 => ok_some ⟨?_, hf⟩) (fun d2 => ok_if (fun d3 => ok_some ⟨?_, hf⟩) (fun d3 => ok_some ⟨?_, hf⟩)))
      · show _ = spv x c
        unfold spv; rw [if_pos d]
      · show _ = spv x c
        unfold spv; rw [if_neg d, if_pos d2]
      · show _ = spv x c
        have : c % 2 = 0 := (cI_inj (b := 0) (by omega) (by decide)).mp d3
        unfold spv; rw [if_neg d, if_neg d2]; exact (if_pos this).symm
      · show _ = spv x c
        have : ¬ c % 2 = 0 := fun e => d3 (by rw [e]; rfl)
        unfold spv; rw [if_neg d, if_neg d2]; exact (if_neg this).symm
/-! polish -/
/-- cut weights behind so many steps -/
def pwl (q : Sg) : Nat → Nat → Z4
  | 0 => cz q (ss q)
  | j + 1 => match (bst q (pwl q j) (8 * sn q)).2.2 with
    | none => pwl q j
    | some c => stC (pwl q j) c
theorem pwl_y {q : Sg} {j c : Nat} (h : (bst q (pwl q j) (8 * sn q)).2.2 = some c) : pwl q (j + 1) = stC (pwl q j) c := by
  conv => lhs; unfold pwl
  rw [h]
theorem pwl_b {q : Sg} (hw : WF q) (h : qh q = true) : ∀ j : Nat, bW (pwl q j) (sn q) (159787 + j) ∧ w0 q (pwl q j) := by
  intro j
  induction j with
  | zero => exact ⟨cz_b hw h hw.2.2.2.2.2.2.2.2.1, czw hw _⟩
  | succ j ih =>
    cases ho : (bst q (pwl q j) (8 * sn q)).2.2 with
    | none =>
      have e : pwl q (j + 1) = pwl q j := by
        conv => lhs; unfold pwl
        rw [ho]
      rw [e]
      exact ⟨bW_m ih.1 (by omega), ih.2⟩
    | some c =>
      rw [pwl_y ho]
      have h1 := bW_st ih.1 c
      exact ⟨bW_m h1 (by omega), w0_st ih.2 ((bst_in q (pwl q j) (8 * sn q)).2 c ho).1.2⟩
theorem cu_take {g : M2} {q : Sg} (hw : WF q) (hC : IC g q) {W : Nat → Z4} (hS : SK g q W (8 * sn q)) {c : Nat} (ho : (bst q W (8 * sn q)).2.2 = some c) : Ok (f_Cu_takeStep 7 g) (fun r => FC g r ∧ DG r q (stC W c) ∧ r.2 138 3 = Int64.ofInt (dX q (stC W c)) ∧ r.2 138 4 = Int64.ofInt (dY q (stC W c))) := by
  have hd4 := hw.2.2.2.2.2.1
  have hn := hw.1
  obtain ⟨s1, s2, s3, s4, s5⟩ := hS
  obtain ⟨⟨hlt, hb⟩, b1, b2⟩ := (bst_in q W (8 * sn q)).2 c ho
  have hc8 : c / 8 < sn q := by omega
  rw [ho] at s4
  obtain ⟨k6, k7⟩ := s5 c ho
  have k5 : g.1 138 5 = cI (c / 8) := s4
  unfold f_Cu_takeStep
  refine ok_bindm (Q := fun z => z.1 = g.1 ∧ (∀ y, ¬ (145 < y ∧ y ≤ 149) → z.2 y = g.2 y) ∧ DG z q (stC W c)) ?_ (fun z hz => ?_)
  · refine ok_for (sd q).length (by omega) (fun j z => z.1 = g.1 ∧ (∀ y, ¬ (145 < y ∧ y < 146 + j) → z.2 y = g.2 y) ∧ ∀ i, i < j → rN z (146 + i) = q64 (cg q (stC W c) ((sd q).getD i 0) (sn q))) ⟨rfl, fun _ _ => rfl, fun i hi => absurd hi (by omega)⟩ ?_ ?_
    · rintro j z hj ⟨z1, z2, z3⟩
      show Ok (b_Cu_takeStep_2 7 (cI j) z) _
      unfold b_Cu_takeStep_2
      rw [z1, show g.1 7 5 = cI (sd q).length from hC.1.2.2.2.2.2.2.2.1, k5, k6, k7]
      refine ok_neg (le_no hj (by omega)) (ok_pos (inb_cI (by omega) (by decide)) ?_)
      rw [cI_nat (by omega)]
      have hCz : IC z q := (FC_I hw hC (fun y hy => ⟨by rw [z1], z2 y (by omega)⟩)).1
      have hp := prod12 (d12 hw hj) (hw.2.1 (c / 8) hc8)
      have hr := rtS_lt c
      refine ok_binde (cu_root hw hCz hj hc8) (ok_binde (nu_addRoot (by omega) (145 + 1 + j) z) (ok_some ⟨c_succ j, z1, fun y hy => ?_, fun i hi => ?_⟩))
      · rw [sN_o _ _ (by omega)]; exact z2 y (by omega)
      · by_cases hij : i = j
        · subst hij
          rw [show 146 + i = 145 + 1 + i by omega, rN_sN, rN_f (z2 _ (by omega)), show 145 + 1 + i = 146 + i by omega, s1 i hj, cg_st hb, if_pos hc8, q64_add]; rfl
        · rw [rN_sNo _ _ (by omega)]; exact z3 i (by omega)
    · rintro z ⟨z1, z2, z3⟩
      show Ok (b_Cu_takeStep_2 7 (cI (sd q).length) z) _
      unfold b_Cu_takeStep_2
      rw [z1, show g.1 7 5 = cI (sd q).length from hC.1.2.2.2.2.2.2.2.1]
      exact ok_pos (le_yes (Nat.le_refl _) (by omega)) (ok_some ⟨z1, fun y hy => z2 y (by omega), z3⟩)
  · obtain ⟨z1, z2, z3⟩ := hz
    refine ok_bd (ok_bd (ok_some ⟨fun y hy => ⟨by show z.1 y = _; rw [z1], by rw [uJ_o _ _ _ (by omega), uJ_o _ _ _ (by omega)]; exact z2 y (by omega)⟩, fun i hi => ?_, ?_, ?_⟩))
    · rw [rN_f (show (uJ (uJ z 138 3 (z.2 138 8)) 138 4 ((uJ z 138 3 (z.2 138 8)).2 138 9)).2 (146 + i) = z.2 (146 + i) from by rw [uJ_o _ _ _ (by omega), uJ_o _ _ _ (by omega)])]; exact z3 i hi
    · rw [uJ_k _ _ _ (by decide), uJ_s, z2 138 (by omega), s2, b1]
    · rw [uJ_s, uJ_k _ _ _ (by decide), z2 138 (by omega), s3, b2]
/-- how many steps are done -/
def plV (q : Sg) (n j : Nat) : Prop := j = n ∨ (bst q (pwl q j) (8 * sn q)).2.2 = none
theorem pl_ex (q : Sg) (n : Nat) : ∃ D, D ≤ n ∧ plV q n D ∧ ∀ j, j < D → ¬ plV q n j := by
  obtain ⟨o, ho⟩ := fs_ex (plV q n) 0 (n + 1)
  cases o with
  | none => exact absurd (Or.inl rfl) (ho n (by omega) (by omega))
  | some D => exact ⟨D, by have := ho.2.1; omega, ho.2.2.1, fun j hj => ho.2.2.2 j (by omega) hj⟩
def plv (q : Sg) (D : Nat) (y : Int32) : Int64 := if y = 0 then (cI D).toInt64 else if y = 1 then Int64.ofInt (dX q (pwl q D)) else Int64.ofInt (dY q (pwl q D))
theorem pr_polish {q : Sg} (hw : WF q) (x y : Int32) : Pr (f_Da_polish x y) (f_Mo_polish x y) q := by
  have hn := hw.1
  by_cases hc : qh q = true ∧ (1 ≤ x.toInt ∧ x.toInt ≤ 20) ∧ inb y 3
  · obtain ⟨h, ⟨c1, c2⟩, c3⟩ := hc
    obtain ⟨D, hD, hDV, hDm⟩ := pl_ex q x.toInt.toNat
    have hx : x = cI x.toInt.toNat := by
      apply Int32.toInt_inj.mp
      rw [cI_toInt (by omega)]; omega
    have hx2 : x.toInt.toNat ≤ 20 := by omega
    generalize x.toInt.toNat = n at hx hD hDV hDm hx2
    have hbp : ∀ j, j ≤ 20 → bW (pwl q j) (sn q) 199999 := fun j hj => bW_m (pwl_b hw h j).1 (by omega)
    have some_of : ∀ j, j < D → ∃ c, (bst q (pwl q j) (8 * sn q)).2.2 = some c := fun j hj => by
      cases ho : (bst q (pwl q j) (8 * sn q)).2.2 with
      | none => exact absurd (Or.inr ho) (hDm j hj)
      | some c => exact ⟨c, rfl⟩
    refine ⟨plv q D y, q, hw, cs_ref hw (fun g => rfl) (fun n => absurd h n) (fun _ r hC hN => ?_), fun g hg => ?_⟩
    · rw [show (3 : Int32) = cI 3 from rfl]
      refine ok_neg (by rw [Int32.lt_iff_toInt_lt]; show ¬ x.toInt < 1; omega) (ok_neg (by rw [Int32.lt_iff_toInt_lt]; show ¬ (20 : Int) < x.toInt; omega) (ok_grd (da_among (by decide) r) (fun n => absurd c3 n) (fun _ => ?_)))
      rw [hC.2.1]
      refine ok_bindm (da_cuts hw h hC hN hw.2.2.2.2.2.2.2.2.1) (fun z hz => ok_bindm (cu_hear hw hz.1 hz.2.2.2) (fun u hu => ?_))
      refine ok_bindm (Q := fun e => e.1 = cI D ∧ FC z e.2 ∧ e.2.2 138 3 = Int64.ofInt (dX q (pwl q D)) ∧ e.2.2 138 4 = Int64.ofInt (dY q (pwl q D))) ?_ (fun e he => ?_)
      · refine ok_lp (fun j st => ∃ w, st = (cI j, w) ∧ FC z w ∧ DG w q (pwl q j) ∧ w.2 138 3 = Int64.ofInt (dX q (pwl q j)) ∧ w.2 138 4 = Int64.ofInt (dY q (pwl q j))) D 5000 0 _ (by omega) (by omega) ⟨u, rfl, hu.1, hu.2.1, hu.2.2.1, hu.2.2.2⟩ ?_
        rintro j st hj ⟨w, rfl, w1, w2, w3, w4⟩
        show Ok (b_Da_polish_34 x y (cI j) w) _
        unfold b_Da_polish_34
        have hCw := (FC_I hw hz.1 w1).1
        have sk := cu_seek hw hCw (hbp j (by omega)) w2 w3 w4
        by_cases hj2 : j = D
        · subst hj2
          rcases hDV with e | e
          · rw [hx]
            exact ok_pos (le_yes (by omega) (by omega)) (ok_some ⟨rfl, w1, w3, w4⟩)
          · refine ok_if (fun _ => ok_some ⟨rfl, w1, w3, w4⟩) (fun _ => ok_bindm sk (fun p hp => ?_))
            refine ok_pos (by rw [hp.1, if_pos e]) (ok_some ⟨rfl, FC_tr w1 hp.2.2.1, by rw [hp.2.2.2.1]; exact w3, by rw [hp.2.2.2.2]; exact w4⟩)
        · have hj' : j < D := by omega
          obtain ⟨c, ho⟩ := some_of j hj'
          rw [hx]
          refine ok_neg (le_no (by omega) (by omega)) (ok_bindm sk (fun p hp => ?_))
          refine ok_neg (by rw [hp.1, if_neg (by rw [ho]; simp)]; decide) ?_
          refine ok_bindm (cu_take hw (FC_I hw hCw hp.2.2.1).1 hp.2.1 ho) (fun t ht => ok_some ⟨hj', t, by rw [c_succ], FC_tr w1 (FC_tr hp.2.2.1 ht.1), ?_⟩)
          rw [pwl_y ho]; exact ht.2
      · have hCe := FC_I hw hz.1 he.2.1
        have hI : IC e.2 q ∧ KC r e.2 := ⟨hCe.1, KC_tr hz.2.1 hCe.2⟩
        unfold j_Da_polish_52
        rw [he.1, he.2.2.1, he.2.2.2]
        refine ok_if (fun d => ok_some ⟨?_, hI⟩) (fun d => ok_if (fun d2 => ok_some ⟨?_, hI⟩) (fun d2 => ok_some ⟨?_, hI⟩))
        · unfold plv; rw [if_pos d]
        · unfold plv; rw [if_neg d, if_pos d2]
        · unfold plv; rw [if_neg d, if_neg d2]
    · unfold f_Mo_polish
      rw [show (2 : Int64) = Int64.ofInt (((3 : Nat) : Int) - 1) from rfl, show (1 : Int64) = Int64.ofInt 1 from rfl, show (20 : Int64) = Int64.ofInt 20 from rfl, mo_inI (by decide) (by decide) (by decide) (by decide)]
      refine ok_grd rfl (fun n => absurd ⟨c1, c2⟩ n) (fun _ => ok_grd (mo_in0 (by decide) g) (fun n => absurd c3 n) (fun _ => mo_cutsNow hw hg (fun n => absurd h n) (fun _ r z hQ hz => ?_)))
      obtain ⟨E, hE, hE1, hE2⟩ := hz
      have hIz := IM_N hQ.1 hE
      have hWz : CW z q (pwl q 0) := fun e he => by rw [hE.2.2 _ (by omega)]; exact hE1 e he
      refine ok_bindm (mo_best hw hIz hWz (pwl_b hw h 0).2 (hbp 0 (by omega))) (fun p hp => ?_)
      refine ok_bindm (Q := fun e => e.1 = cI D ∧ MF z e.2 ∧ CW e.2 q (pwl q D)) ?_ (fun e he => ?_)
      · refine ok_lp (fun j st => ∃ w, st = (cI j, lkI (bst q (pwl q j) (8 * sn q)).2.2, w) ∧ MF z w ∧ CW w q (pwl q j)) D 5000 0 _ (by omega) (by omega) ⟨p.2, by rw [hp.1]; rfl, hp.2.1, hp.2.2⟩ ?_
        rintro j st hj ⟨w, rfl, w1, w2⟩
        show Ok (b_Mo_polish_22 x y (cI j) (lkI (bst q (pwl q j) (8 * sn q)).2.2) w) _
        unfold b_Mo_polish_22
        by_cases hj2 : j = D
        · subst hj2
          rcases hDV with e | e
          · refine ok_if (fun _ => ok_some ⟨rfl, w1, w2⟩) (fun _ => ?_)
            rw [hx]
            exact ok_pos (le_yes (by omega) (by omega)) (ok_some ⟨rfl, w1, w2⟩)
          · rw [e]
            exact ok_pos rfl (ok_some ⟨rfl, w1, w2⟩)
        · have hj' : j < D := by omega
          obtain ⟨c, ho⟩ := some_of j hj'
          have hlt := ((bst_in q (pwl q j) (8 * sn q)).2 c ho).1.1
          have hbr := ((bst_in q (pwl q j) (8 * sn q)).2 c ho).1.2
          have hc8 : c / 8 < sn q := by omega
          obtain ⟨k1, k2, k3⟩ := code_k c (by omega)
          rw [ho, hx, show lkI (some c) = cI c from rfl, k1, k2, k3, show (82 : Int32) = cI 82 from rfl, cI_add, show (4 : Int32) = cI 4 from rfl, cI_mul, cI_add]
          have i352 : inb (cI (4 * (82 + c / 8) + c / 2 % 4)) 352 := inb_cI (by omega) (by decide)
          refine ok_neg (cI_m1 (b := c) (by omega)) (ok_neg (le_no (by omega) (by omega)) (ok_pos i352 ?_))
          simp only [cI_nat (show 4 * (82 + c / 8) + c / 2 % 4 < 2 ^ 31 by omega)]
          have go : ∀ X : Int64, X = (if c % 2 = 0 then 1 else -1) → Ok (if inb (cI (4 * (82 + c / 8) + c / 2 % 4)) 352 then (bd (uJ w 158 (4 * (82 + c / 8) + c / 2 % 4) ((w.2 158 (4 * (82 + c / 8) + c / 2 % 4)) + X)) fun g13 => ((f_Mo_bestStep g13).bind fun q14 => some (Sum.inl ((cI j + (1 : Int32)), q14.1, q14.2)))) else none : Option ((Int32 × Int32 × M2) ⊕ (Int32 × M2))) (fun r => Sum.elim (fun s2 => j < D ∧ ∃ w, s2 = (cI (j + 1), lkI (bst q (pwl q (j + 1)) (8 * sn q)).2.2, w) ∧ MF z w ∧ CW w q (pwl q (j + 1))) (fun e => e.1 = cI D ∧ MF z e.2 ∧ CW e.2 q (pwl q D)) r) := by
            intro X hX
            refine ok_pos i352 (ok_bd ?_)
            obtain ⟨s1, s2⟩ := cw_st hn w2 hc8 hX
            have m1 := MF_u (z := w) (a := 4 * (82 + c / 8) + c / 2 % 4) (by omega) (w.2 158 (4 * (82 + c / 8) + c / 2 % 4) + X)
            rw [← pwl_y ho] at s1
            refine ok_bindm (mo_best hw (IM_f hIz (MF_F (MF_tr w1 m1))) s1 (pwl_b hw h (j + 1)).2 (hbp (j + 1) (by omega))) (fun t ht => ok_some ⟨hj', t.2, by rw [ht.1, c_succ], MF_tr w1 (MF_tr m1 ht.2.1), ht.2.2⟩)
          by_cases h2 : c % 2 = 0
          · rw [h2]
            exact ok_pos rfl (go 1 (if_pos h2).symm)
          · rw [show c % 2 = 1 by omega]
            exact ok_neg (by decide) (go (-1) (if_neg h2).symm)
      · unfold j_Mo_polish_59
        refine ok_bindm (mo_deafs hw (IM_f hIz (MF_F he.2.1)) he.2.2 (pwl_b hw h D).2) (fun t ht => ?_)
        have hf : FM z t := FM_tr (MF_F he.2.1) (MF_F ht.1)
        rw [he.1, ht.2.2.1, ht.2.2.2]
        refine ok_if (fun d => ok_some ⟨?_, hf⟩) (fun d => ok_if (fun d2 => ok_some ⟨?_, hf⟩) (fun d2 => ok_some ⟨?_, hf⟩))
        · unfold plv; rw [if_pos d]
        · unfold plv; rw [if_neg d, if_pos d2]
        · unfold plv; rw [if_neg d, if_neg d2]
  · refine ⟨MN64, q, hw, cs_ref hw (fun g => rfl) (fun n => rfl) (fun h r hC hN => ?_), fun g hg => ?_⟩
    · rw [show (3 : Int32) = cI 3 from rfl]
      refine ok_if (fun _ => ok_some ⟨rfl, hC, KC_rf r⟩) (fun d1 => ok_if (fun _ => ok_some ⟨rfl, hC, KC_rf r⟩) (fun d2 => ok_grd (da_among (by decide) r) (fun _ => ok_some ⟨rfl, hC, KC_rf r⟩) (fun c3 => absurd ⟨h, ⟨?_, ?_⟩, c3⟩ hc)))
      · rw [Int32.lt_iff_toInt_lt] at d1
        have d3 : ¬ x.toInt < 1 := d1
        omega
      · rw [Int32.lt_iff_toInt_lt] at d2
        have d3 : ¬ (20 : Int) < x.toInt := d2
        omega
    · unfold f_Mo_polish
      rw [show (2 : Int64) = Int64.ofInt (((3 : Nat) : Int) - 1) from rfl, show (1 : Int64) = Int64.ofInt 1 from rfl, show (20 : Int64) = Int64.ofInt 20 from rfl, mo_inI (by decide) (by decide) (by decide) (by decide)]
      exact ok_grd rfl (fun _ => ok_some ⟨rfl, hg, KM_rf g⟩) (fun c1 => ok_grd (mo_in0 (by decide) g) (fun _ => ok_some ⟨rfl, hg, KM_rf g⟩) (fun c3 => mo_cutsNow hw hg (fun n => rfl) (fun h r z hQ hz => absurd ⟨h, c1, c3⟩ hc)))
