/-! weights, gains, shares -/
theorem q_on {q : Sg} (hw : WF q) (h : qh q = true) : 0 < qm q ∧ ¬ Lo (qw q) (qp q) 0 ∧ (sl q).isSome = true ∧ (qp q).length ≤ 5 ∧ (∀ i, i < qm q → qw q i < 12) ∧ Hd (qw q) (qp q) (qm q) := by
  unfold qh at h
  rw [Bool.and_eq_true] at h
  have hm : 0 < qm q := by
    show 0 < (wll (sl q) (sd q)).length
    unfold wll
    cases hs : sl q with
    | none => rw [hs] at h; cases h.1
    | some k => simp
  have hd : Hd (qw q) (qp q) (qm q) := by
    have := h.2
    unfold hdb at this
    have h3 := of_decide_eq_true this
    exact fun i hi hl => h3 i hi hl
  refine ⟨hm, look_free hd hm, h.1, Nat.le_trans (wkl_len _ _ _) hw.1, ?_, hd⟩
  refine wsl_lt (fun k hk => (hw.2.2.2.2.1 k hk).1) (fun i hi => hw.2.2.2.2.2.2.1 _ (getD_mem hi))
abbrev qL (q : Sg) : Int := lowz (qw q) (qp q) (qm q)
theorem qL_b {q : Sg} (hw : WF q) : 0 < qL q ∧ qL q ≤ 9765625 := ⟨low_pos (WF_m hw), (low_le (WF_m hw) (Nat.le_trans (wkl_len _ _ _) hw.1)).2⟩
theorem qL_1 {q : Sg} (hw : WF q) : b61 (qL q) ∧ qL q ≠ 0 := by
  have := qL_b hw
  unfold b61
  omega
theorem bz_0 : bz (0, 0, 0, 0) := ⟨⟨by decide, by decide⟩, ⟨by decide, by decide⟩, ⟨by decide, by decide⟩, by decide, by decide⟩
theorem bz_c {v : Z4} (h : 4 * pXz v ≤ 3 * (16777216 * 16777216)) : bz v := by
  obtain ⟨h1, h2, h3, h4⟩ := comp_le (by decide) h
  unfold bz b61
  omega
theorem bz_l {m : Nat} {v : Z4} (h : len m v) (hm : m ≤ 2 ^ 61) : bz v := by
  obtain ⟨h1, h2, h3, h4⟩ := len_comp h
  unfold bz b61
  omega
theorem tld_0 {L : Int} (hL : b61 L) (h : 0 < L) {k : Nat} (hk : k < 5) : tld L (0, 0, 0, 0) k = if k = 4 then 1 else 0 := by
  have hz : ∀ j, j < 4 → cmz (0, 0, 0, 0) L j = 0 := by
    intro j hj
    have : j = 0 ∨ j = 1 ∨ j = 2 ∨ j = 3 := by omega
    rcases this with rfl | rfl | rfl | rfl <;> rfl
  have hg : ∀ j, j ≤ 4 → gc L (0, 0, 0, 0) j = L := by
    intro j
    induction j with
    | zero => intro _; rfl
    | succ j ih =>
      intro hj
      show ((Int.gcd (gc L (0, 0, 0, 0) j) (cmz (0, 0, 0, 0) L j) : Nat) : Int) = L
      rw [hz j (by omega), ih (by omega), Int.gcd_zero_right]
      omega
  unfold tld
  unfold b61 at hL
  rw [hg 4 (Nat.le_refl _)]
  by_cases h4 : k = 4
  · subst h4
    show Int64.ofInt L / Int64.ofInt L = _
    rw [if_pos rfl, div64 (by omega) (by omega) (by omega) (by omega), Int.tdiv_self (by omega)]
    rfl
  · rw [if_neg h4, hz k (by omega), div64 (by omega) (by omega) (by omega) (by omega), Int.zero_tdiv]
    rfl
/-- the class's numbers by element -/
abbrev qv (q : Sg) (e : Nat) : Z4 := wte (qw q) (qp q) (qm q) (sp q) (sb q) e
theorem wk_mem {pos : Nat → Nat} {br n e : Nat} (he : e < n) (hb : ¬ br.testBit e = true) : pos e ∈ wkl pos br n := by
  unfold wkl
  refine List.mem_map.mpr ⟨e, List.mem_filter.mpr ⟨List.mem_range.mpr he, ?_⟩, rfl⟩
  simpa using hb
theorem qv_b {q : Sg} (hw : WF q) (h : qh q = true) {e : Nat} (he : e < sn q) : 4 * pXz (qv q e) ≤ 3 * (16777216 * 16777216) := by
  obtain ⟨h1, h2, h3, h4, h5, _⟩ := q_on hw h
  show 4 * pXz (wte (qw q) (qp q) (qm q) (sp q) (sb q) e) ≤ _
  unfold wte
  by_cases hb : (sb q).testBit e = true
  · rw [if_pos hb]; decide
  · rw [if_neg hb]
    have := wt_le1 (WF_m hw) h4 h1 h2 (fun i hi => Nat.le_of_lt (h5 i hi)) (wk_mem (pos := sp q) he hb)
    have h6 := (qL_b hw).2
    have h7 : pXz (wtz (qw q) (qp q) (qm q) (sp q e)) ≤ qL q * 1953125 := this
    omega
/-- after refreshing, a query of the class: what it may change -/
theorem IC_p {g r : M2} {q : Sg} (hw : WF q) (h : IC g q) (h1 : r.1 = g.1) (h2 : ∀ y, y ≠ 156 → r.2 y = g.2 y) : IC r q ∧ KC g r :=
  ⟨IC_q hw h (fun y _ hq => ⟨by rw [h1], h2 y (fun e => hq (by unfold qc; omega))⟩), fun y hy => ⟨by rw [h1], h2 y (by omega)⟩⟩
theorem e_add (n : Nat) {x : Int32} {m : Nat} (h : inb x m) : (Int32.ofNat n) + x = cI (n + x.toNatClampNeg) := by
  conv => lhs; rw [inb_to h]
  rw [cI_add]
theorem pr_gain {q : Sg} (hw : WF q) (x y : Int32) : Pr (f_Da_gain x y) (f_Mo_gain x y) q := by
  refine ⟨if qh q then (if inb x 12 then (if inb y 5 then tld (qL q) (gnz (qw q) (qp q) (qm q) x.toNatClampNeg) y.toNatClampNeg else MN64) else MN64) else MN64, q, hw, fun g hg => ?_, fun g hg => ?_⟩
  · unfold f_Da_gain
    refine ok_bindm (da_refresh hw hg) (fun r hr => ?_)
    obtain ⟨a1, a2, a3⟩ := hr
    simp only [qh_e a2, da_dir, if10e]
    by_cases h : qh q = true
    · refine ok_neg (fun e => e h) ?_
      obtain ⟨h1, h2, h3, h4, h5, _⟩ := q_on hw h
      by_cases c : inb x 12
      · refine ok_neg (fun e => e c) (ok_pos c ?_)
        have hv := a2.2.2.2.2.2.2.2 h
        rw [hv.1.1]
        have hx := c.2
        have hb := gn_c (WF_m hw) h4 h1 h2 (fun i hi => Nat.le_of_lt (h5 i hi)) x.toNatClampNeg
        refine ok_bindm (da_part (a := 55 + 1 + x.toNatClampNeg) (hv.2.1 _ hx) (by omega) (bz_c hb) (qL_1 hw).1 (qL_1 hw).2 y) (fun p hp => ok_some ?_)
        have := IC_p hw a1 hp.2.1 hp.2.2
        exact ⟨hp.1.trans (by rw [if_pos h, if_pos c]), this.1, KC_tr a3 this.2⟩
      · exact ok_pos c (ok_some ⟨by rw [if_neg c, ite_self], a1, a3⟩)
    · exact ok_pos h (ok_some ⟨by rw [if_neg h], a1, a3⟩)
  · unfold f_Mo_gain
    simp only [mo_dir, show (4 : Int64) = Int64.ofInt (((5 : Nat) : Int) - 1) from rfl, mo_in0 (show 5 < 2 ^ 31 by decide), if10e]
    by_cases c : inb x 12
    · refine ok_neg (fun e => e c) ?_
      by_cases c2 : inb y 5
      · refine ok_neg (fun e => e c2) (ok_bindm (mo_canNow hw hg) (fun r hr => ?_))
        obtain ⟨b1, b2, b3, b4, b5⟩ := hr
        rw [b1]
        simp only [if10e]
        by_cases h : qh q = true
        · refine ok_neg (fun e => e h) ?_
          obtain ⟨h1, h2, h3, h4, h5, _⟩ := q_on hw h
          have hv := b4.2.2.2.2.2 ⟨h3, h2⟩
          have hx := c.2
          have hb := gn_c (WF_m hw) h4 h1 h2 (fun i hi => Nat.le_of_lt (h5 i hi)) x.toNatClampNeg
          rw [show (67 : Int32) = Int32.ofNat 67 from rfl, e_add 67 c, hv.1]
          exact ok_binde (mo_told (by omega) (hv.2.2.2.2.2.2 _ hx) (bz_c hb) (qL_1 hw).1 (qL_1 hw).2 c2) (ok_some ⟨by rw [if_pos h, if_pos c, if_pos c2], b3, FM_K b2⟩)
        · exact ok_pos h (ok_some ⟨by rw [if_neg h], b3, FM_K b2⟩)
      · exact ok_pos c2 (ok_some ⟨by rw [if_neg c2, ite_self, ite_self], hg, KM_rf g⟩)
    · exact ok_pos c (ok_some ⟨by rw [if_neg c, ite_self], hg, KM_rf g⟩)
theorem wk_idx (pos : Nat → Nat) (br : Nat) : ∀ (n e : Nat), e < n → ¬ br.testBit e = true → (wkl pos br e).length < (wkl pos br n).length ∧ (wkl pos br n).getD (wkl pos br e).length 0 = pos e := by
  intro n
  induction n with
  | zero => intro e he; omega
  | succ n ih =>
    intro e he hb
    rw [wkl_s]
    by_cases hen : e = n
    · subst hen
      rw [if_neg hb]
      refine ⟨by simp, ?_⟩
      rw [List.getD_eq_getElem?_getD, List.getElem?_append_right (Nat.le_refl _), Nat.sub_self]; rfl
    · obtain ⟨h1, h2⟩ := ih e (by omega) hb
      split
      · exact ⟨h1, h2⟩
      · refine ⟨by rw [List.length_append]; omega, ?_⟩
        rw [List.getD_eq_getElem?_getD, List.getElem?_append_left h1, ← List.getD_eq_getElem?_getD]; exact h2
theorem pr_weight {q : Sg} (hw : WF q) (x y : Int32) : Pr (f_Da_weight x y) (f_Mo_weight x y) q := by
  have hn5 := hw.1
  refine ⟨if qh q then (if inb x (sn q) then (if inb y 5 then tld (qL q) (qv q x.toNatClampNeg) y.toNatClampNeg else MN64) else MN64) else MN64, q, hw, fun g hg => ?_, fun g hg => ?_⟩
  · unfold f_Da_weight
    refine ok_bindm (da_refresh hw hg) (fun r hr => ?_)
    obtain ⟨a1, a2, a3⟩ := hr
    simp only [qh_e a2, da_has hw a1, if10e]
    by_cases h : qh q = true
    · refine ok_neg (fun e => e h) ?_
      by_cases c : inb x (sn q)
      · have hx := c.2
        refine ok_neg (fun e => e c) (ok_pos ⟨c.1, by omega⟩ ?_)
        have hv := a2.2.2.2.2.2.2.2 h
        rw [hv.1.1]
        refine ok_bindm (da_part (a := 49 + 1 + x.toNatClampNeg) (hv.1.2.2 _ hx) (by omega) (bz_c (qv_b hw h hx)) (qL_1 hw).1 (qL_1 hw).2 y) (fun p hp => ok_some ?_)
        have := IC_p hw a1 hp.2.1 hp.2.2
        exact ⟨hp.1.trans (by rw [if_pos h, if_pos c]), this.1, KC_tr a3 this.2⟩
      · exact ok_pos c (ok_some ⟨by rw [if_neg c, ite_self], a1, a3⟩)
    · exact ok_pos h (ok_some ⟨by rw [if_neg h], a1, a3⟩)
  · unfold f_Mo_weight
    refine ok_binde (mo_elem hw hg.2.1) ?_
    simp only [show (4 : Int64) = Int64.ofInt (((5 : Nat) : Int) - 1) from rfl, mo_in0 (show 5 < 2 ^ 31 by decide), if10e]
    by_cases c : inb x (sn q)
    · refine ok_neg (fun e => e c) ?_
      by_cases c2 : inb y 5
      · refine ok_neg (fun e => e c2) (ok_bindm (mo_canNow hw hg) (fun r hr => ?_))
        obtain ⟨b1, b2, b3, b4, b5⟩ := hr
        rw [b1]
        simp only [if10e]
        have hx := c.2
        by_cases h : qh q = true
        · refine ok_neg (fun e => e h) (ok_pos ⟨c.1, by omega⟩ ?_)
          obtain ⟨h1, h2, h3, h4, h5, _⟩ := q_on hw h
          have hv := b4.2.2.2.2.2 ⟨h3, h2⟩
          have hwa := b5 _ hx
          rw [Nat.or_zero] at hwa
          rw [hwa]
          by_cases hb : (sb q).testBit x.toNatClampNeg = true
          · simp only [if_pos hb]
            refine ok_pos trivial ?_
            have hqv : qv q x.toNatClampNeg = (0, 0, 0, 0) := by
              show wte _ _ _ _ _ _ = _
              unfold wte; rw [if_pos hb]
            have ht := tld_0 (qL_1 hw).1 (qL_b hw).1 c2.2
            by_cases h4' : y = 4
            · refine ok_pos h4' (ok_some ⟨?_, b3, FM_K b2⟩)
              rw [if_pos h, if_pos c, if_pos c2, hqv, ht, if_pos (by rw [h4']; rfl)]
            · refine ok_neg h4' (ok_some ⟨?_, b3, FM_K b2⟩)
              rw [if_pos h, if_pos c, if_pos c2, hqv, ht, if_neg]
              intro e
              exact h4' (by rw [inb_to c2, e]; rfl)
          · obtain ⟨w1, w2⟩ := wk_idx (sp q) (sb q) _ _ hx hb
            have hwl := wkl_len (sp q) (sb q) (sn q)
            have hqv : qv q x.toNatClampNeg = wtz (qw q) (qp q) (qm q) (sp q x.toNatClampNeg) := by
              show wte _ _ _ _ _ _ = _
              unfold wte; rw [if_neg hb]
            simp only [if_neg hb]
            refine ok_neg ?_ (ok_pos ⟨c.1, by omega⟩ ?_)
            · have key : ∀ k : Nat, k < 12 → ¬ (cI k = (-1 : Int32)) := by decide +kernel
              exact key _ (by omega)
            · rw [show (62 : Int32) = cI 62 from rfl, cI_add, hv.1]
              have hbz := bz_c (qv_b hw h hx)
              rw [hqv] at hbz
              refine ok_binde (mo_told (by omega) ((hv.2.2.2.2.2.1 _ w1).trans (by rw [w2])) hbz (qL_1 hw).1 (qL_1 hw).2 c2) (ok_some ⟨?_, b3, FM_K b2⟩)
              rw [if_pos h, if_pos c, if_pos c2, hqv]
        · exact ok_pos h (ok_some ⟨by rw [if_neg h], b3, FM_K b2⟩)
      · exact ok_pos c2 (ok_some ⟨by rw [if_neg c2, ite_self, ite_self], hg, KM_rf g⟩)
    · exact ok_pos c (ok_some ⟨by rw [if_neg c, ite_self], hg, KM_rf g⟩)
