/-! louder, quiet -/
theorem pr_louder {q : Sg} (hw : WF q) (x y : Int32) : Pr (f_Da_louder x y) (f_Mo_louder x y) q := by
  refine ⟨if qh q then (if inb x 12 then (if inb y 12 then Int32.ofInt (cmpP q x.toNatClampNeg y.toNatClampNeg) else -2) else -2) else -2, q, hw, fun g hg => ?_, fun g hg => ?_⟩
  · unfold f_Da_louder
    refine ok_bindm (da_refresh hw hg) (fun r hr => ?_)
    obtain ⟨a1, a2, a3⟩ := hr
    simp only [qh_e a2, da_dir, if10e]
    by_cases h : qh q = true
    · refine ok_neg (fun e => e h) ?_
      by_cases c : inb x 12
      · refine ok_neg (fun e => e c) ?_
        by_cases c2 : inb y 12
        · have e := so_compare hw h a2 c.2 c2.2
          rw [← inb_to c, ← inb_to c2] at e
          exact ok_neg (fun e => e c2) (ok_binde e (ok_some ⟨by rw [if_pos h, if_pos c, if_pos c2], a1, a3⟩))
        · exact ok_pos c2 (ok_some ⟨by rw [if_neg c2, ite_self, ite_self], a1, a3⟩)
      · exact ok_pos c (ok_some ⟨by rw [if_neg c, ite_self], a1, a3⟩)
    · exact ok_pos h (ok_some ⟨by rw [if_neg h], a1, a3⟩)
  · unfold f_Mo_louder
    simp only [mo_dir, if10e]
    by_cases c : inb x 12
    · refine ok_neg (fun e => e c) ?_
      by_cases c2 : inb y 12
      · refine ok_neg (fun e => e c2) (ok_bindm (mo_canNow hw hg) (fun r hr => ?_))
        obtain ⟨b1, b2, b3, b4, b5⟩ := hr
        rw [b1]
        simp only [if10e]
        by_cases h : qh q = true
        · refine ok_neg (fun e => e h) ?_
          obtain ⟨h1, h2, h3, h4, h5, _⟩ := q_on hw h
          have hv := b4.2.2.2.2.2 ⟨h3, h2⟩
          refine ok_bindm (mo_laysPowers b3.1 (G := qg q) hv.2.2.2.2.2.2) (fun z hz => ?_)
          have e := mo_compared hw h hz c.2 c2.2
          rw [← inb_to c, ← inb_to c2] at e
          have hf := FM_L hz
          exact ok_binde e (ok_some ⟨by rw [if_pos h, if_pos c, if_pos c2], IM_f b3 hf, FM_K (FM_tr b2 hf)⟩)
        · exact ok_pos h (ok_some ⟨by rw [if_neg h], b3, FM_K b2⟩)
      · exact ok_pos c2 (ok_some ⟨by rw [if_neg c2, ite_self, ite_self], hg, KM_rf g⟩)
    · exact ok_pos c (ok_some ⟨by rw [if_neg c, ite_self], hg, KM_rf g⟩)
/-- how many of the first n directions are quiet -/
def qn (q : Sg) : Nat → Nat
  | 0 => 0
  | k + 1 => if q64 (qg q k) = (0, 0, 0, 0) then qn q k + 1 else qn q k
theorem pr_quiet {q : Sg} (hw : WF q) : Pr f_Da_quiet f_Mo_quiet q := by
  refine ⟨if qh q then cI (qn q 12) else -2, q, hw, fun g hg => ?_, fun g hg => ?_⟩
  · unfold f_Da_quiet
    refine ok_bindm (da_refresh hw hg) (fun r hr => ?_)
    obtain ⟨a1, a2, a3⟩ := hr
    simp only [qh_e a2]
    by_cases h : qh q = true
    · have hv := a2.2.2.2.2.2.2.2 h
      refine ok_neg (fun e => e h) (ok_bindm (Q := fun z => z = cI (qn q 12)) ?_ (fun z hz => ok_some ⟨by rw [if_pos h]; exact hz, a1, a3⟩))
      refine ok_lp (fun k s => s = (cI (qn q k), cI k)) 12 5000 0 _ (by omega) (by omega) rfl ?_
      intro k s hk hs
      subst hs
      show Ok (b_Da_quiet_12 (cI (qn q k)) (cI k) r) _
      unfold b_Da_quiet_12
      by_cases hk2 : k = 12
      · subst hk2
        exact ok_pos (le_yes (a := 12) (Nat.le_refl _) (by decide)) (ok_some rfl)
      · have hk' : k < 12 := by omega
        refine ok_neg (le_no (a := 12) hk' (by decide)) (ok_pos (inb_cI hk' (by decide)) ?_)
        rw [cI_nat (by omega), nu_isZero, hv.2.1 k hk']
        simp only [if10e]
        by_cases hz : q64 (gnz (qw q) (qp q) (qm q) k) = (0, 0, 0, 0)
        · refine ok_neg (fun e => e hz) (ok_some ⟨hk', ?_⟩)
          rw [c_succ, c_succ]
          show _ = (cI (if q64 (qg q k) = (0, 0, 0, 0) then qn q k + 1 else qn q k), _)
          rw [if_pos hz]
        · refine ok_pos hz (ok_some ⟨hk', ?_⟩)
          rw [c_succ]
          show _ = (cI (if q64 (qg q k) = (0, 0, 0, 0) then qn q k + 1 else qn q k), _)
          rw [if_neg hz]
    · exact ok_pos h (ok_some ⟨by rw [if_neg h], a1, a3⟩)
  · unfold f_Mo_quiet
    refine ok_bindm (mo_canNow hw hg) (fun r hr => ?_)
    obtain ⟨b1, b2, b3, b4, b5⟩ := hr
    rw [b1]
    simp only [if10e]
    by_cases h : qh q = true
    · obtain ⟨h1, h2, h3, h4, h5, _⟩ := q_on hw h
      have hv := b4.2.2.2.2.2 ⟨h3, h2⟩
      refine ok_neg (fun e => e h) (ok_bindm (Q := fun z => z = cI (qn q 12)) ?_ (fun z hz => ok_some ⟨by rw [if_pos h]; exact hz, b3, FM_K b2⟩))
      refine ok_lp (fun k s => s = (cI (qn q k), cI k)) 12 5000 0 _ (by omega) (by omega) rfl ?_
      intro k s hk hs
      subst hs
      show Ok (b_Mo_quiet_9 (cI (qn q k)) (cI k) r.2) _
      unfold b_Mo_quiet_9
      by_cases hk2 : k = 12
      · subst hk2
        exact ok_pos (le_yes (a := 12) (Nat.le_refl _) (by decide)) (ok_some rfl)
      · have hk' : k < 12 := by omega
        rw [show (67 : Int32) = cI 67 from rfl, cI_add]
        refine ok_neg (le_no (a := 12) hk' (by decide)) (ok_binde (mo_isNought (by omega) r.2) ?_)
        rw [hv.2.2.2.2.2.2 k hk']
        simp only [if10e]
        by_cases hz : q64 (gnz (qw q) (qp q) (qm q) k) = (0, 0, 0, 0)
        · refine ok_neg (fun e => e hz) (ok_some ⟨hk', ?_⟩)
          rw [c_succ, c_succ]
          show _ = (cI (if q64 (qg q k) = (0, 0, 0, 0) then qn q k + 1 else qn q k), _)
          rw [if_pos hz]
        · refine ok_pos hz (ok_some ⟨hk', ?_⟩)
          rw [c_succ, show (0 : Int32) = cI 0 from rfl, cI_add]
          show _ = (cI (if q64 (qg q k) = (0, 0, 0, 0) then qn q k + 1 else qn q k), _)
          rw [if_neg hz]; rfl
    · exact ok_pos h (ok_some ⟨by rw [if_neg h], b3, FM_K b2⟩)
