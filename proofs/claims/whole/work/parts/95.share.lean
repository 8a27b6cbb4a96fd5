/-! room and share -/
theorem FM_N {g r : M2} {D : Nat → Q6} (h : MN g r D) : FM g r :=
  ⟨fun y hy => ⟨by rw [h.1], h.2.1 y (by omega) (by omega)⟩, fun j _ => by rw [h.1]⟩
theorem q5 {q : Sg} (hw : WF q) : (qp q).length ≤ 5 := Nat.le_trans (wkl_len _ _ _) hw.1
theorem pr_room {q : Sg} (hw : WF q) (x : Int32) : Pr (f_Da_room x) (f_Mo_room x) q := by
  have hm5 := WF_m hw
  refine ⟨if x = 0 then Int64.ofInt (rX (qw q) (qp q) (qm q)) else if x = 1 then Int64.ofInt (rY (qw q) (qp q) (qm q)) else MN64, q, hw, fun g hg => ?_, fun g hg => ?_⟩
  · unfold f_Da_room
    refine ok_bindm (da_refresh hw hg) (fun r hr => ?_)
    obtain ⟨a1, a2, a3⟩ := hr
    have h6 := a2.2.2.2.2.2.1
    have h7 := a2.2.2.2.2.2.2.1
    refine ok_if (fun c => ok_some ⟨?_, a1, a3⟩) (fun c => ok_if (fun c2 => ok_some ⟨?_, a1, a3⟩) (fun c2 => ok_some ⟨?_, a1, a3⟩))
    · rw [if_pos c]; exact h6
    · rw [if_neg c, if_pos c2]; exact h7
    · rw [if_neg c, if_neg c2]
  · unfold f_Mo_room
    simp only [show (1 : Int64) = Int64.ofInt (((2 : Nat) : Int) - 1) from rfl, mo_in0 (show 2 < 2 ^ 31 by decide), if10e]
    by_cases c : inb x 2
    · refine ok_neg (fun e => e c) (ok_bindm (mo_canNow hw hg) (fun r hr => ?_))
      obtain ⟨_, b2, b3, b4, _⟩ := hr
      obtain ⟨hI, d14, dfr, _⟩ := b4
      have hle := fl_le (Gz (qw q) (qp q)) (qm q)
      have hp32 : 2 ^ (fl (Gz (qw q) (qp q)) (qm q)).length ≤ 32 := show _ ≤ 2 ^ 5 from Nat.pow_le_pow_right (by decide) (by omega)
      have hp1 : 1 ≤ 2 ^ (fl (Gz (qw q) (qp q)) (qm q)).length := Nat.one_le_two_pow
      rw [d14]
      refine ok_bindm (mo_laysGram (MN_rf r.2) hI (many := (fl (Gz (qw q) (qp q)) (qm q)).length) (by omega) (fun i hi => ⟨dfr i hi, frz_lt _ _ _ hi⟩)) (fun q5 hq5 => ?_)
      rw [hq5.1, d14]
      refine ok_bindm (mo_laysDet hq5 hI.1 (G := fun i j => Gz (qw q) (qp q) (frz (Gz (qw q) (qp q)) (qm q) i) (frz (Gz (qw q) (qp q)) (qm q) j)) (fm := 0) (many := (fl (Gz (qw q) (qp q)) (qm q)).length) (by omega) (by decide) (fun i j hi hj => by rw [if_pos (by omega), show (5 * i + j) / 5 = i by omega, show (5 * i + j) % 5 = j by omega])) (fun q6 hq6 => ?_)
      obtain ⟨E6, hE6, hE6d, hE6a⟩ := hq6
      have hroom : rM q6 (25 + (2 ^ (fl (Gz (qw q) (qp q)) (qm q)).length - 1)) = q64 (re (rX (qw q) (qp q) (qm q)) (rY (qw q) (qp q) (qm q))) := by
        rw [hE6.2.2 _ (by omega), hE6d _ (by omega) (by rw [(bl_full _ (by omega)).2]; omega), (bl_full _ (by omega)).1, (bl_full _ (by omega)).2, zdx_map (frz (Gz (qw q) (qp q)) (qm q)) (Gz (qw q) (qp q)), fr_all (Gz (qw q) (qp q)) (qm q) _ (fun _ _ => rfl), ← (rm_re (ws := qw q) (ps := qp q) hm5).1]
        rfl
      rw [hE6.1, d14, pow5 _ (by omega), show (25 : Int32) = cI 25 from rfl, cI_add, c_pred (by omega), show 25 + 2 ^ (fl (Gz (qw q) (qp q)) (qm q)).length - 1 = 25 + (2 ^ (fl (Gz (qw q) (qp q)) (qm q)).length - 1) by omega]
      have hf := FM_tr b2 (FM_N hE6)
      have hx : cmp (rM q6 (25 + (2 ^ (fl (Gz (qw q) (qp q)) (qm q)).length - 1))) 0 = Int64.ofInt (rX (qw q) (qp q) (qm q)) := by rw [hroom]; rfl
      have hy : cmp (rM q6 (25 + (2 ^ (fl (Gz (qw q) (qp q)) (qm q)).length - 1))) 3 = Int64.ofInt (-(rY (qw q) (qp q) (qm q))) := by rw [hroom]; rfl
      by_cases c0 : x = 0
      · refine ok_pos c0 (ok_binde (mo_part (a := 25 + (2 ^ (fl (Gz (qw q) (qp q)) (qm q)).length - 1)) (i := 0) (by omega) (by decide) q6) (ok_some ⟨?_, IM_f hg hf, FM_K hf⟩))
        rw [if_pos c0]; exact hx
      · refine ok_neg c0 (ok_binde (mo_part (a := 25 + (2 ^ (fl (Gz (qw q) (qp q)) (qm q)).length - 1)) (i := 3) (by omega) (by decide) q6) (ok_some ⟨?_, IM_f hg hf, FM_K hf⟩))
        have c1 : x = 1 := by
          have h2 := c.2
          have he := inb_to c
          generalize x.toNatClampNeg = e at h2 he
          subst he
          have : e = 0 ∨ e = 1 := by omega
          rcases this with rfl | rfl
          · exact absurd rfl c0
          · rfl
        rw [if_neg c0, if_pos c1]
        show -(cmp _ 3) = _
        rw [hy, o64_neg]
    · refine ok_pos c (ok_some ⟨?_, hg, KM_rf g⟩)
      rw [if_neg (fun e => c (by rw [e]; exact inb_cI (a := 0) (by decide) (by decide))), if_neg (fun e => c (by rw [e]; exact inb_cI (a := 1) (by decide) (by decide)))]
theorem sh_b {q : Sg} (hw : WF q) (h : qh q = true) (i : Nat) : bz (shz (qw q) (qp q) (qm q) i) := by
  obtain ⟨h1, h2, h3, h4, h5, _⟩ := q_on hw h
  have l1 := Cz_len (WF_m hw) h4 h1 h2 i
  have hr := rm_re (ws := qw q) (ps := qp q) (WF_m hw)
  have hx := (low_le (ws := qw q) (ps := qp q) (WF_m hw) h4).1
  have ht := hr.2
  unfold tp at ht
  have hy := abs_le (a := rY (qw q) (qp q) (qm q)) (N := rX (qw q) (qp q) (qm q)) (by omega) (by have := sq_nn (rY (qw q) (qp q) (qm q)); omega)
  have l2 : len (3 * 3125) (re (rX (qw q) (qp q) (qm q)) (-(rY (qw q) (qp q) (qm q)))) := len_re (by omega) (by omega)
  exact bz_l (len_mul l1 l2) (by decide)
theorem frz_mem {G : Nat → Nat → Z4} {m x : Nat} : x ∈ fl G m ↔ ∃ i, i < (fl G m).length ∧ frz G m i = x := by
  rw [← List.mem_reverse, mem_getD, List.length_reverse]
  rfl
theorem pr_share {q : Sg} (hw : WF q) (x y : Int32) : Pr (f_Da_share x y) (f_Mo_share x y) q := by
  have hm5 := WF_m hw
  refine ⟨if qh q then (if inb x (qm q) then (if inb y 5 then tld (qL q) (shz (qw q) (qp q) (qm q) x.toNatClampNeg) y.toNatClampNeg else MN64) else MN64) else MN64, q, hw, fun g hg => ?_, fun g hg => ?_⟩
  · unfold f_Da_share
    refine ok_bindm (da_refresh hw hg) (fun r hr => ?_)
    obtain ⟨a1, a2, a3⟩ := hr
    rw [a2.1]
    simp only [qh_e a2, da_among (show qm q < 2 ^ 31 by omega), if10e]
    by_cases h : qh q = true
    · refine ok_neg (fun e => e h) ?_
      by_cases c : inb x (qm q)
      · have hx := c.2
        refine ok_neg (fun e => e c) (ok_pos ⟨c.1, by omega⟩ ?_)
        have hv := a2.2.2.2.2.2.2.2 h
        rw [hv.1.1]
        refine ok_bindm (da_part (a := 43 + 1 + x.toNatClampNeg) (hv.1.2.1 _ hx) (by omega) (sh_b hw h _) (qL_1 hw).1 (qL_1 hw).2 y) (fun p hp => ok_some ?_)
        have := IC_p hw a1 hp.2.1 hp.2.2
        exact ⟨hp.1.trans (by rw [if_pos h, if_pos c]), this.1, KC_tr a3 this.2⟩
      · exact ok_pos c (ok_some ⟨by rw [if_neg c, ite_self], a1, a3⟩)
    · exact ok_pos h (ok_some ⟨by rw [if_neg h], a1, a3⟩)
  · unfold f_Mo_share
    simp only [show (4 : Int64) = Int64.ofInt (((5 : Nat) : Int) - 1) from rfl, mo_in0 (show 5 < 2 ^ 31 by decide), if10e]
    by_cases c2 : inb y 5
    · refine ok_neg (fun e => e c2) (ok_bindm (mo_canNow hw hg) (fun r hr => ?_))
      obtain ⟨b1, b2, b3, b4, b5⟩ := hr
      have hI := b4.1
      rw [b1, hI.2.2.2.2.1]
      simp only [mo_inN (show qm q < 2 ^ 31 by omega), if10e]
      by_cases h : qh q = true
      · refine ok_neg (fun e => e h) ?_
        obtain ⟨h1, h2, h3, h4, h5, _⟩ := q_on hw h
        have hv := b4.2.2.2.2.2 ⟨h3, h2⟩
        by_cases c : inb x (qm q)
        · refine ok_neg (fun e => e c) ?_
          have hx := c.2
          have hle := fl_le (Gz (qw q) (qp q)) (qm q)
          have hxe := inb_to c
          rw [if_pos h, if_pos c, if_pos c2]
          generalize x.toNatClampNeg = e at hx hxe
          subst hxe
          refine ok_bindm (Q := fun z => Sum.elim (fun _ => ∀ i, i < (fl (Gz (qw q) (qp q)) (qm q)).length → frz (Gz (qw q) (qp q)) (qm q) i ≠ e) (fun p => p.1 = tld (qL q) (shz (qw q) (qp q) (qm q) e) y.toNatClampNeg ∧ FM r.2 p.2) z) ?_ (fun z hz => ?_)
          · refine ok_lp (fun j s => s = cI j ∧ ∀ i, i < j → frz (Gz (qw q) (qp q)) (qm q) i ≠ e) (fl (Gz (qw q) (qp q)) (qm q)).length 5000 0 _ (by omega) (by omega) ⟨rfl, fun i hi => absurd hi (by omega)⟩ ?_
            rintro j s hj ⟨rfl, hs⟩
            show Ok (b_Mo_share_23 (cI e) y (cI j) r.2) _
            unfold b_Mo_share_23
            rw [b4.2.1]
            by_cases hjn : j = (fl (Gz (qw q) (qp q)) (qm q)).length
            · rw [← hjn]
              exact ok_pos (le_yes (Nat.le_refl _) (by omega)) (ok_some hs)
            · have hj' : j < (fl (Gz (qw q) (qp q)) (qm q)).length := by omega
              have hfl := frz_lt (Gz (qw q) (qp q)) (qm q) j hj'
              refine ok_neg (le_no hj' (by omega)) (ok_pos (inb_cI (by omega) (by decide)) ?_)
              rw [cI_nat (by omega), b4.2.2.1 j hj']
              by_cases hc : frz (Gz (qw q) (qp q)) (qm q) j = e
              · refine ok_pos (by rw [hc]) ?_
                refine ok_bindm (mn_clears (MN_rf r.2) (a := 87) (by decide)) (fun q8 hq8 => ?_)
                rw [show (57 : Int32) = cI 57 from rfl, cI_add]
                refine ok_bindm (mn_addsProduct hq8 b3.1 (t := 87) (a := 57 + j) (b := 79) (by decide) (by omega) (by decide) 1) (fun q9 hq9 => ?_)
                have h87 : rM q9 87 = q64 (shz (qw q) (qp q) (qm q) e) := by
                  rw [hq9.2.2 87 (by decide), up_s, up_s, up_o _ _ (show 57 + j ≠ 87 by omega), up_o _ _ (show 79 ≠ 87 by decide), qadd_0, qsc_1, hv.2.2.2.1 j hj', hv.2.2.2.2.1, ← q64_mul, hc]
                  rfl
                rw [hq9.2.1 157 (by decide) (by decide), hv.1]
                exact ok_binde (mo_told (by decide) h87 (sh_b hw h _) (qL_1 hw).1 (qL_1 hw).2 c2) (ok_some ⟨rfl, FM_N hq9⟩)
              · refine ok_neg (ne_no hc (by omega) (by omega)) (ok_some ⟨hj', c_succ j, fun i hi => ?_⟩)
                by_cases hij : i = j
                · rw [hij]; exact hc
                · exact hs i (by omega)
          · cases z with
            | inl u =>
              have hne : e ∉ fl (Gz (qw q) (qp q)) (qm q) := fun hm => by
                obtain ⟨i, i1, i2⟩ := frz_mem.mp hm
                exact hz i i1 i2
              have hs0 : shz (qw q) (qp q) (qm q) e = (0, 0, 0, 0) := by
                unfold shz
                rw [Cz_none h1 h2 hne]
                apply q_ext <;> simp [qmul]
              have ht := tld_0 (qL_1 hw).1 (qL_b hw).1 c2.2
              refine ok_if (fun d => ok_some ⟨?_, b3, FM_K b2⟩) (fun d => ok_some ⟨?_, b3, FM_K b2⟩)
              · rw [hs0, ht, if_pos (by rw [d]; rfl)]
              · rw [hs0, ht, if_neg]
                intro e'
                exact d (by rw [inb_to c2, e']; rfl)
            | inr p => exact ok_some ⟨hz.1, IM_f b3 hz.2, FM_K (FM_tr b2 hz.2)⟩
        · exact ok_pos c (ok_some ⟨by rw [if_neg c, ite_self], b3, FM_K b2⟩)
      · exact ok_pos h (ok_some ⟨by rw [if_neg h], b3, FM_K b2⟩)
    · exact ok_pos c2 (ok_some ⟨by rw [if_neg c2, ite_self, ite_self], hg, KM_rf g⟩)
